/-! 38: induct -/
theorem ri_to {n : Nat} {A : Nat → List Nat} {Z : Nat → Nat} {v hh : Nat} (hv : v < 16) (hhh : 8 ≤ v → hh < 8) : tm_P (tm_sg n A Z) [if v < 8 then 0 else 1] (tm_to v hh) := by
  unfold tm_to
  by_cases h : v < 8
  · rw [if_pos h, if_pos h]
    have := yi_Pv (n := n) (A := A) (Z := Z) hv
    rw [if_pos h] at this
    exact ⟨[0], 0, [], rfl, rfl, this⟩
  · rw [if_neg h, if_neg h]
    have h1 := yi_Pv (n := n) (A := A) (Z := Z) hv
    have h8 := hhh (by omega)
    have h2 := yi_Pv (n := n) (A := A) (Z := Z) (v := hh) (by omega)
    rw [if_neg h] at h1
    rw [if_pos h8] at h2
    exact ⟨[0, 1], 1, [], rfl, rfl, tm_P_app h1 _ [0] h2⟩
theorem ri_ba {n : Nat} {A : Nat → List Nat} {Z : Nat → Nat} {v : Nat} : tm_P (tm_sg n A Z) [if v < 8 then 0 else 1] (tm_ba v) := by
  unfold tm_ba
  by_cases h : v < 8
  · rw [if_pos h, if_pos h]
    exact ⟨[], 0, [], rfl, rfl, rfl⟩
  · rw [if_neg h, if_neg h]
    exact ⟨[], 1, [], rfl, rfl, rfl⟩
theorem ri_vcf {v : Nat} : ¬ tm_fn (tm_vc v) := by
  unfold tm_vc
  split <;> omega
theorem ri_toF {R : Nat → List Nat} {v hh : Nat} : tm_FC R (tm_to v hh) := by
  intro c hc hf
  exfalso
  unfold tm_to at hc
  split at hc
  · rcases List.mem_cons.mp hc with e | hc
    · omega
    · rw [List.mem_singleton.mp hc] at hf
      exact ri_vcf hf
  · rcases List.mem_cons.mp hc with e | hc
    · omega
    · rcases List.mem_cons.mp hc with e | hc
      · rw [e] at hf
        exact ri_vcf hf
      · rw [List.mem_singleton.mp hc] at hf
        exact ri_vcf hf
theorem ri_baF {R : Nat → List Nat} {v : Nat} : tm_FC R (tm_ba v) := by
  intro c hc hf
  exfalso
  unfold tm_ba at hc
  split at hc
  · have := List.mem_singleton.mp hc
    omega
  · have := List.mem_singleton.mp hc
    omega
theorem ri_baL (v : Nat) : (tm_ba v).length = 1 := by
  unfold tm_ba
  split <;> rfl
theorem i_vc_induct {k : Nat} {u : SX} {v : SY} (I : i_Rel k u v) (hk : k + 5 ≤ 2560) (v1 : Int32) : wpX_induct (fun r u' => wpY_induct (fun r' v' => r' = r ∧ i_Rel (k + 5) u' v') v v1) u v1 := by
  have I2 := I
  obtain ⟨n, q, ng, A, Z, hy, pr, val, e2, act, mX, mY, T, L, ay, gs, so, E, B, pv, vl, el, T', L', K, bo, bs, be, fa, fr, fe, hr, ft, hyA, vl', ee, wb, rfl, rfl, hI⟩ := I
  have hI0 := hI
  obtain ⟨hMX, hMY, hW, hL, hA, hsX, hsY, hP, hH, hHy, hvX, hvY⟩ := hI
  rcases re_act hI0 with ⟨rfl, rfl⟩ | ⟨kk, k1, k2, rfl, k3, k4, k5⟩
  · unfold wpX_induct wpY_induct
    dsimp only
    exact br_f (by decide) (br_f (by decide) ⟨rfl, I2⟩)
  ·
    have hS := hW.1
    have hRU := hW.2.2.2.2.2.1.1
    have hq8 := hW.2.1
    have h48 := hW.2.2.2.1
    have e0 : mY 0 = mX 0 := hL.1
    obtain ⟨⟨sg, w1, w2, w3, w4, w5, w6⟩, hyt, hyf⟩ := hW.2.2.2.2.2.2 (ng - 1) (by omega)
    obtain ⟨l1, l2, l3⟩ := hL.2.2.2 (ng - 1) (by omega)
    have hRm : ∀ i, i < 32 → mY (1 + i) = iv_R mX i := hL.2.2.1
    have hV := (tm_sg_GS hS).1
    have hfrp : ∀ v, yf_p mY (hy (ng - 1)) (49 + 4 * (ng - 1)) v ↔ fr_p mX (49 + 4 * (ng - 1)) v := by
      intro v
      unfold yf_p fr_p
      rw [l1, l2]
      cases hyv : hy (ng - 1) with
      | true =>
        rw [(l3 hyv).1, (l3 hyv).2]
        constructor
        · rintro (a | a | ⟨_, a | a⟩)
          · exact Or.inl a
          · exact Or.inr (Or.inl a)
          · exact Or.inr (Or.inr (Or.inl a))
          · exact Or.inr (Or.inr (Or.inr a))
        · rintro (a | a | a | a)
          · exact Or.inl a
          · exact Or.inr (Or.inl a)
          · exact Or.inr (Or.inr ⟨rfl, Or.inl a⟩)
          · exact Or.inr (Or.inr ⟨rfl, Or.inr a⟩)
      | false =>
        rw [(hyf hyv).1, (hyf hyv).2]
        constructor
        · rintro (a | a | ⟨z, _⟩)
          · exact Or.inl a
          · exact Or.inr (Or.inl a)
          · cases z
        · rintro (a | a | a | a)
          · exact Or.inl a
          · exact Or.inr (Or.inl a)
          · cases a
          · cases a
    have hfrl : ∀ lo v, fr_l (yf_p mY (hy (ng - 1)) (49 + 4 * (ng - 1))) lo v → fr_l (fr_p mX (49 + 4 * (ng - 1))) lo v := fun lo v h => ⟨h.1, h.2.1, fun y => h.2.2.1 ((hfrp v).mpr y), fun u a b => (hfrp u).mp (h.2.2.2 u a b)⟩
    have ha : (0 : Int32) ≤ nI kk := nI_pos' (by omega)
    by_cases hneg : v1 < 0
    · unfold wpX_induct wpY_induct
      dsimp only
      exact br_t ha (br_t hneg (br_t ha (br_t hneg ⟨rfl, I2⟩)))
    · obtain ⟨v, hj, rfl⟩ := nI_of hneg
      by_cases hv : v < 16
      · have hYI : ∀ (Q : Int32 → SY → Prop), (¬ (tm_vc v ∈ mX (49 + 4 * (ng - 1)) ∨ tm_vc v ∈ mX (49 + 4 * (ng - 1) + 1)) → Q (-6) (nI n, nI q, nI ng, nI kk, T', L', K, bo, bs, be, fa, fr, fe, hr, ft, hyA, vl', ee, wb)) → (tm_vc v ∈ mX (49 + 4 * (ng - 1)) ∨ tm_vc v ∈ mX (49 + 4 * (ng - 1) + 1) → ng = 8 ∨ (8 ≤ v ∧ ∀ u, 8 * 0 ≤ u → u < 8 * 0 + 8 → fr_p mX (49 + 4 * (ng - 1)) u) → ∀ T2 L2 m2, cm_M 64 89 T2 L2 m2 → (∀ s, s < 81 → m2 s = mY s) → Q (-4) (nI n, nI q, nI ng, nI kk, T2, L2, K, bo, bs, be, fa, fr, fe, hr, ft, hyA, vl', ee, wb)) →
            (∀ hh, tm_vc v ∈ mX (49 + 4 * (ng - 1)) ∨ tm_vc v ∈ mX (49 + 4 * (ng - 1) + 1) → ng < 8 → (8 ≤ v → fr_l (fr_p mX (49 + 4 * (ng - 1))) (8 * 0) hh) → 48 < (tm_R (tm_sg n A Z) false (mX (49 + 4 * (ng - 1))) [tm_vc v] (tm_to v hh) 0).2.length ∨ 48 < (tm_R (tm_sg n A Z) false (mX (49 + 4 * (ng - 1) + 1)) [tm_vc v] (tm_to v hh) 0).2.length → ∀ T2 L2 bo2 bs2 be2 m2, cm_M 64 89 T2 L2 m2 → (∀ s, s < 81 → m2 s = mY s) → Q (-7) (nI n, nI q, nI ng, nI kk, T2, L2, K, bo2, bs2, be2, fa, fr, fe, hr, ft, hyA, vl', ee, wb)) →
            (∀ hh, tm_vc v ∈ mX (49 + 4 * (ng - 1)) ∨ tm_vc v ∈ mX (49 + 4 * (ng - 1) + 1) → ng < 8 → (8 ≤ v → fr_l (fr_p mX (49 + 4 * (ng - 1))) (8 * 0) hh) → (tm_R (tm_sg n A Z) false (mX (49 + 4 * (ng - 1))) [tm_vc v] (tm_to v hh) 0).2.length ≤ 48 → (tm_R (tm_sg n A Z) false (mX (49 + 4 * (ng - 1) + 1)) [tm_vc v] (tm_to v hh) 0).2.length ≤ 48 → ∀ T2 L2 bo2 bs2 be2 m2, cm_M 64 89 T2 L2 m2 → m2 (49 + 4 * (ng - 1)) = (tm_R (tm_sg n A Z) false (mX (49 + 4 * (ng - 1))) [tm_vc v] (tm_to v hh) 0).2 → m2 (49 + 4 * (ng - 1) + 1) = (tm_R (tm_sg n A Z) false (mX (49 + 4 * (ng - 1) + 1)) [tm_vc v] (tm_to v hh) 0).2 → m2 (49 + 4 * (ng - 1) + 2) = mX (49 + 4 * (ng - 1)) → m2 (49 + 4 * (ng - 1) + 3) = mX (49 + 4 * (ng - 1) + 1) → m2 (49 + 4 * (ng - 1) + 4) = (tm_R (tm_sg n A Z) false (mX (49 + 4 * (ng - 1))) [tm_vc v] (tm_ba v) 0).2 → m2 (49 + 4 * (ng - 1) + 5) = (tm_R (tm_sg n A Z) false (mX (49 + 4 * (ng - 1) + 1)) [tm_vc v] (tm_ba v) 0).2 → (∀ s, s < 81 → s < 49 + 4 * (ng - 1) ∨ 49 + 4 * (ng - 1) + 7 < s → m2 s = mY s) → Q (nI (ng + 1)) (nI n, nI q, nI (ng + 1), nI kk, T2, L2, K, bo2, bs2, be2, fa, fr, fe, hr, ft, upd (upd hyA (ng - 1) 1) ng 0, vl', ee, wb)) → wpY_induct Q (nI n, nI q, nI ng, nI kk, T', L', K, bo, bs, be, fa, fr, fe, hr, ft, hyA, vl', ee, wb) (nI v) := by
          intro Q c1 c2 c3 c4
          refine yp_induct (s1 := sg) (s2 := sg) (hyv := hy (ng - 1)) k2 hv hS hsY hMY k3 k4 (by rw [l1]; exact w1) (by rw [l2]; exact w2) (by rw [l1]; exact w5) (by rw [l2]; exact w6) (hHy (ng - 1) (by omega)) ?_ ?_ ?_ ?_
          · rw [l1, l2]
            exact c1
          · rw [l1, l2]
            intro a b
            apply c2 a
            rcases b with b | ⟨b1, b2⟩
            · exact Or.inl b
            · exact Or.inr ⟨b1, fun u x y => (hfrp u).mp (b2 u x y)⟩
          · rw [l1, l2]
            exact fun hh a b c => c3 hh a b (fun z => hfrl _ _ (c z))
          · rw [l1, l2]
            exact fun hh a b c => c4 hh a b (fun z => hfrl _ _ (c z))
        refine xp_induct k2 hv hW hsX hMX k3 (fun hni => ?_) (fun hin hu => ?_) (fun hh hin h8 hfr hlong T1 L1 E1 B1 m1 hM1 f1 => ?_) (fun hh hin h8 hfr z1 z2 T1 L1 E1 B1 m1 hM1 x1 x2 x3 x4 x5 x6 x7 x8 f1 => ?_)
        · exact hYI _ (fun _ => ⟨rfl, I2⟩) (fun z => absurd z hni) (fun _ z => absurd z hni) (fun _ z => absurd z hni)
        · refine hYI _ (fun z => absurd hin z) (fun _ _ T2 L2 m2 hM2 f2 => ⟨rfl, re_mk (re_keep hI0 hMX (fun _ _ => rfl) hM2 f2)⟩) (fun hh _ h8 hfr => ?_) (fun hh _ h8 hfr => ?_)
          · rcases hu with z | ⟨y1, y2⟩
            · omega
            · exact absurd (y2 hh (hfr y1).1 (hfr y1).2.1) (hfr y1).2.2.1
          · rcases hu with z | ⟨y1, y2⟩
            · omega
            · exact absurd (y2 hh (hfr y1).1 (hfr y1).2.1) (hfr y1).2.2.1
        · have heq : ∀ h2, (8 ≤ v → fr_l (fr_p mX (49 + 4 * (ng - 1))) (8 * 0) h2) → tm_to v h2 = tm_to v hh := by
            intro h2 hf2
            unfold tm_to
            by_cases v8 : v < 8
            · rw [if_pos v8, if_pos v8]
            · rw [fr_u (hf2 (by omega)) (hfr (by omega))]
          refine hYI _ (fun z => absurd hin z) (fun _ hu => ?_) (fun h2 _ _ hf2 _ T2 L2 bo2 bs2 be2 m2 hM2 f2 => ⟨rfl, re_mk (re_keep hI0 hM1 f1 hM2 f2)⟩) (fun h2 _ _ hf2 y1 y2 => ?_)
          · rcases hu with z | ⟨y1, y2⟩
            · omega
            · exact absurd (y2 hh (hfr y1).1 (hfr y1).2.1) (hfr y1).2.2.1
          · rw [heq h2 hf2] at y1 y2
            omega
        · have heq : ∀ h2, (8 ≤ v → fr_l (fr_p mX (49 + 4 * (ng - 1))) (8 * 0) h2) → tm_to v h2 = tm_to v hh := by
            intro h2 hf2
            unfold tm_to
            by_cases v8 : v < 8
            · rw [if_pos v8, if_pos v8]
            · rw [fr_u (hf2 (by omega)) (hfr (by omega))]
          refine hYI _ (fun z => absurd hin z) (fun _ hu => ?_) (fun h2 _ _ hf2 y => ?_) (fun h2 _ _ hf2 _ _ T2 L2 bo2 bs2 be2 m2 hM2 => ?_)
          · rcases hu with z | ⟨y1, y2⟩
            · omega
            · exact absurd (y2 hh (hfr y1).1 (hfr y1).2.1) (hfr y1).2.2.1
          · rw [heq h2 hf2] at y
            omega
          · rw [heq h2 hf2]
            intro y1 y2 y3 y4 y5 y6 f2
            refine ⟨rfl, ?_⟩
            have hh8 : 8 ≤ v → hh < 8 := fun z => by
              have := (hfr z).2.1
              omega
            have hPv := yi_Pv (n := n) (A := A) (Z := Z) hv
            have r1 := iv_Rok (pat := false) (fr := [tm_vc v]) hV w1 w3 hPv (ri_to hv hh8) (ri_toF (R := iv_R mX)) (Or.inl rfl)
            have r2 := iv_Rok (pat := false) (fr := [tm_vc v]) hV w2 w4 hPv (ri_to hv hh8) (ri_toF (R := iv_R mX)) (Or.inl rfl)
            have b1 := iv_Rok (pat := false) (fr := [tm_vc v]) hV w1 w3 hPv ri_ba (ri_baF (R := iv_R mX)) (Or.inl rfl)
            have b2 := iv_Rok (pat := false) (fr := [tm_vc v]) hV w2 w4 hPv ri_ba (ri_baF (R := iv_R mX)) (Or.inl rfl)
            have n1 := tm_R_len1 (g := tm_sg n A Z) (w := mX (49 + 4 * (ng - 1))) (fr := [tm_vc v]) (ri_baL v) _ 0 (Nat.le_refl _)
            have n2 := tm_R_len1 (g := tm_sg n A Z) (w := mX (49 + 4 * (ng - 1) + 1)) (fr := [tm_vc v]) (ri_baL v) _ 0 (Nat.le_refl _)
            have hW2 : iv_W n A Z q (ng + 1) (fun j => if j = ng then false else if j = ng - 1 then true else hy j) m1 := by
              refine iv_W_goals (fun s a b => f1 s (by omega) (by omega)) (by rw [f1 0 (by omega) (by omega)]; exact h48) (by omega) hW (fun j hj => ?_)
              by_cases q1 : j = ng
              · have ej : 49 + 4 * j = 49 + 4 * (ng - 1) + 4 := by omega
                rw [ej, x5, x6]
                refine ⟨⟨sg, b1.1, b2.1, b1.2, b2.2, by omega, by omega⟩, fun z => ?_, fun _ => ⟨x7, x8⟩⟩
                rw [if_pos q1] at z
                cases z
              · by_cases q2 : j = ng - 1
                · rw [q2, x1, x2, x3, x4]
                  refine ⟨⟨sg, r1.1, r2.1, r1.2, r2.2, z1, z2⟩, fun _ => ⟨sg, w1, w2, w3, w4, w5, w6⟩, fun z => ?_⟩
                  rw [if_neg (by omega), if_pos rfl] at z
                  cases z
                · have := hW.2.2.2.2.2.2 j (by omega)
                  rw [f1 (49 + 4 * j) (by omega) (by omega), f1 (49 + 4 * j + 1) (by omega) (by omega), f1 (49 + 4 * j + 2) (by omega) (by omega), f1 (49 + 4 * j + 3) (by omega) (by omega)]
                  try dsimp only
                  rw [if_neg q1, if_neg q2]
                  exact this
            refine re_mk ⟨hM1, hM2, hW2, ⟨?_, fun i hi => ?_, fun i hi => ?_, fun j hj => ?_⟩, Or.inr ⟨kk, k1, rfl, by omega, k5⟩, hsX, hsY, hP, re_Hext (re_Rext (fun s a b => f1 s (by omega) (by omega))) hH, fun j hj => ?_, hvX, hvY⟩
            · rw [f1 0 (by omega) (by omega), f2 0 (by omega) (by omega)]
              exact e0
            · rw [f1 _ (by omega) (by omega), f2 _ (by omega) (by omega)]
              exact hL.2.1 i hi
            · rw [f1 _ (by omega) (by omega), f2 _ (by omega) (by omega)]
              exact hL.2.2.1 i hi
            · by_cases q1 : j = ng
              · have ej : 49 + 4 * j = 49 + 4 * (ng - 1) + 4 := by omega
                rw [ej, x5, y5]
                refine ⟨rfl, y6.trans x6.symm, fun z => ?_⟩
                dsimp only at z
                rw [if_pos q1] at z
                cases z
              · by_cases q2 : j = ng - 1
                · rw [q2, x1, x2, x3, x4, y1, y2, y3, y4]
                  exact ⟨rfl, rfl, fun _ => ⟨rfl, rfl⟩⟩
                · have := hL.2.2.2 j (by omega)
                  rw [f1 (49 + 4 * j) (by omega) (by omega), f1 (49 + 4 * j + 1) (by omega) (by omega), f1 (49 + 4 * j + 2) (by omega) (by omega), f1 (49 + 4 * j + 3) (by omega) (by omega), f2 (49 + 4 * j) (by omega) (by omega), f2 (49 + 4 * j + 1) (by omega) (by omega), f2 (49 + 4 * j + 2) (by omega) (by omega), f2 (49 + 4 * j + 3) (by omega) (by omega)]
                  try dsimp only
                  rw [if_neg q1, if_neg q2]
                  exact this
            · by_cases q1 : j = ng
              · have h9 : ¬ (fun j => if j = ng then false else if j = ng - 1 then true else hy j) j = true := by
                  dsimp only
                  rw [if_pos q1]
                  decide
                have hval : upd (upd hyA (ng - 1) 1) ng 0 j = 0 := by rw [q1, cm_us]
                exact hval.trans (if_neg h9).symm
              · rw [cm_un q1]
                by_cases q2 : j = ng - 1
                · have h9 : (fun j => if j = ng then false else if j = ng - 1 then true else hy j) j = true := by
                    dsimp only
                    rw [if_neg q1, if_pos q2]
                  have hval : upd hyA (ng - 1) 1 j = 1 := by rw [q2, cm_us]
                  exact hval.trans (if_pos h9).symm
                · rw [cm_un q2, hHy j (by omega)]
                  have h9 : (fun j => if j = ng then false else if j = ng - 1 then true else hy j) j = hy j := by
                    dsimp only
                    rw [if_neg q1, if_neg q2]
                  by_cases hyj : hy j = true
                  · rw [if_pos hyj]
                    exact (if_pos (h9.trans hyj)).symm
                  · rw [if_neg hyj]
                    exact (if_neg (fun z => hyj (h9.symm.trans z))).symm
      · have a16 : ¬ nI v < 16 := nI_nlt (b := 16) (by omega) hj
        have a15 : ¬ nI v ≤ 15 := nI_ge (a := 15) (by omega) hj
        unfold wpX_induct wpY_induct
        dsimp only
        exact br_t ha (br_f hneg (br_f a16 (br_t ha (br_f hneg (br_f a15 ⟨rfl, I2⟩)))))
