/-! 25: the tactics keep it: generalize, induct -/
theorem ri_vcf {v : Nat} : ¬ tm_fn (tm_vc v) := by
  unfold tm_vc
  split <;> omega
theorem ri_toF {R : Nat → List Nat} {v hh : Nat} : tm_FC R (tm_to v hh) := by
  intro c hc hf
  exfalso
  unfold tm_to at hc
  split at hc
  · rcases List.mem_cons.mp hc with e | hc
    · omega
    · rw [List.mem_singleton.mp hc] at hf
      exact ri_vcf hf
  · rcases List.mem_cons.mp hc with e | hc
    · omega
    · rcases List.mem_cons.mp hc with e | hc
      · rw [e] at hf
        exact ri_vcf hf
      · rw [List.mem_singleton.mp hc] at hf
        exact ri_vcf hf
theorem ri_baF {R : Nat → List Nat} {v : Nat} : tm_FC R (tm_ba v) := by
  intro c hc hf
  exfalso
  unfold tm_ba at hc
  split at hc
  · have := List.mem_singleton.mp hc
    omega
  · have := List.mem_singleton.mp hc
    omega
theorem ri_baL (v : Nat) : (tm_ba v).length = 1 := by
  unfold tm_ba
  split <;> rfl
theorem ri_sv {n : Nat} {A : Nat → List Nat} {Z : Nat → Nat} (hS : tm_SG n A Z) {w : List Nat} {s : Nat} (h : tm_P (tm_sg n A Z) [s] w) : s < 2 := by
  cases w with
  | nil => exact absurd h (fun z => nomatch (show [s] = [] from z))
  | cons c w =>
    obtain ⟨a, s2, S, hg, hS2, _⟩ := h
    obtain ⟨rfl, _⟩ := List.cons.inj hS2
    exact (tm_sg_b hS hg).2.2.1
section MB
variable {n : Nat} {A : Nat → List Nat} {Z : Nat → Nat} {M : Nat → Prop} {u : St1} {post : Int32 → St1 → Prop}
theorem mw_gen (h : li_T n A Z M u) (hp : ∀ r u, li_T n A Z M u → post r u) : wpX_generalize post u := by
  have h2 := h
  obtain ⟨q, ng, hy, pr, val, e2, act, m, T, L, ay, gs, so, E, B, pv, vl, el, rfl, hpr, hC, hI⟩ := h
  have hI0 := hI
  obtain ⟨hM, hW, hA, hg, hP, hv, hR, hV, hF⟩ := hI
  have hkeep : ∀ T1 L1 E1 B1 m1, mm_M 49 86 T1 L1 m1 → m1 0 = [] → (∀ s, 1 ≤ s → s < 81 → m1 s = m s) → li_T n A Z M (nI n, nI q, act, nI ng, T1, L1, ay, gs, so, E1, B1, pv, vl, el) := fun T1 L1 E1 B1 m1 hM1 x0 f1 => li_mk hpr (li_keep hI0 hM1 f1 (by rw [x0]; exact Nat.zero_le _))
  have hact : act = -1 ∨ (∃ k, k < 8 ∧ act = nI k ∧ 1 ≤ ng) := by
    rcases li_act hI0 with ⟨z, _⟩ | ⟨kk, k1, k2, k3, k4, k5, k6⟩
    · exact Or.inl z
    · exact Or.inr ⟨kk, k2, k3, k4⟩
  refine xp_gen hW hg hM hact (fun _ T1 L1 E1 B1 m1 hM1 x0 f1 => hp _ _ (hkeep T1 L1 E1 B1 m1 hM1 x0 f1)) (fun _ _ T1 L1 E1 B1 m1 hM1 x0 f1 => hp _ _ (hkeep T1 L1 E1 B1 m1 hM1 x0 f1)) (fun _ _ _ _ T1 L1 E1 B1 m1 hM1 x0 f1 => hp _ _ (hkeep T1 L1 E1 B1 m1 hM1 x0 f1)) (fun _ _ _ _ _ T1 L1 E1 B1 m1 hM1 x0 f1 => hp _ _ (hkeep T1 L1 E1 B1 m1 hM1 x0 f1)) (fun _ _ _ _ _ _ T1 L1 E1 B1 m1 hM1 x0 f1 => hp _ _ (hkeep T1 L1 E1 B1 m1 hM1 x0 f1)) (fun sv v hne hts hns hz hfr T1 L1 E1 B1 m1 hM1 x0 x1 x2 f1 => ?_)
  rcases li_act hI0 with ⟨z, _⟩ | ⟨kk, k1, k2, rfl, k3, k4, k5⟩
  · exact absurd z hne
  · obtain ⟨⟨sg, w1, w2, w3, w4, w5, w6⟩, hyt, hyf⟩ := hW.2.2.2.2.2.2 (ng - 1) (by omega)
    have hS := hW.1
    have hVV := (tm_sg_GS hS).1
    have p1 := tm_ts_P.mp hts
    have hsv := ri_sv hS p1
    have hv1 := hfr.1
    have hv2 := hfr.2.1
    have hPv := ri_Pv (n := n) (A := A) (Z := Z) (v := v) (by omega)
    rw [show (if v < 8 then 0 else 1) = sv by split <;> omega] at hPv
    have hFv : tm_FC (iv_R m) [tm_vc v] := by
      intro c hc hf
      rw [List.mem_singleton.mp hc] at hf
      exact absurd hf ri_vcf
    have r1 := iv_Rok (pat := false) (fr := m 0) (to := [tm_vc v]) hVV w1 w3 p1 hPv hFv (Or.inl rfl)
    have r2 := iv_Rok (pat := false) (fr := m 0) (to := [tm_vc v]) hVV w2 w4 p1 hPv hFv (Or.inl rfl)
    have d1 := tm_R_len1 (g := tm_sg n A Z) (w := m (49 + 4 * (ng - 1))) (fr := m 0) (to := [tm_vc v]) rfl _ 0 (Nat.le_refl _)
    have d2 := tm_R_len1 (g := tm_sg n A Z) (w := m (49 + 4 * (ng - 1) + 1)) (fr := m 0) (to := [tm_vc v]) rfl _ 0 (Nat.le_refl _)
    refine hp _ _ (li_mk hpr (li_goal hI0 k3 hM1 f1 (by rw [x0]; exact Nat.zero_le _) ?_ (sd_gen hVV (by omega) p1 hPv w1 w2 hfr.2.2.1 x1 x2 (f1 _ (by omega) (by omega) (by omega) (by omega)) (f1 _ (by omega) (by omega) (by omega) (by omega)))))
    rw [x1, x2]
    exact ⟨sg, r1.1, r2.1, r1.2, r2.2, by omega, by omega⟩
theorem mw_induct (h : li_T n A Z M u) (hp : ∀ r u, li_T n A Z M u → post r u) (v1 : Int32) : wpX_induct post u v1 := by
  have h2 := h
  obtain ⟨q, ng, hy, pr, val, e2, act, m, T, L, ay, gs, so, E, B, pv, vl, el, rfl, hpr, hC, hI⟩ := h
  have hI0 := hI
  obtain ⟨hM, hW, hA, hg, hP, hv, hR, hV, hF⟩ := hI
  rcases li_act hI0 with ⟨rfl, rfl⟩ | ⟨kk, k1, k2, rfl, k3, k4, k5⟩
  · unfold wpX_induct
    dsimp only
    exact br_f (by decide) (hp _ _ h2)
  · have ha : (0 : Int32) ≤ nI kk := nI_pos' (by omega)
    by_cases hneg : v1 < 0
    · unfold wpX_induct
      dsimp only
      exact br_t ha (br_t hneg (hp _ _ h2))
    · obtain ⟨v, hj, rfl⟩ := nI_of hneg
      by_cases hv16 : v < 16
      · refine xp_induct k2 hv16 hW hg hM k3 (fun _ => hp _ _ h2) (fun _ _ => hp _ _ h2) (fun hh _ _ _ _ T1 L1 E1 B1 m1 hM1 f1 => hp _ _ (li_mk hpr (li_keep0 hI0 hM1 f1))) (fun hh hin h8 hfr z1 z2 T1 L1 E1 B1 m1 hM1 x1 x2 x3 x4 x5 x6 x7 x8 f1 => ?_)
        obtain ⟨⟨sg, w1, w2, w3, w4, w5, w6⟩, hyt, hyf⟩ := hW.2.2.2.2.2.2 (ng - 1) (by omega)
        have hS := hW.1
        have h48 := hW.2.2.2.1
        have hVV := (tm_sg_GS hS).1
        have hh8 : 8 ≤ v → hh < 8 := fun z => by
          have := (hfr z).2.1
          omega
        have hPv := ri_Pv (n := n) (A := A) (Z := Z) hv16
        have r1 := iv_Rok (pat := false) (fr := [tm_vc v]) hVV w1 w3 hPv (ri_to hv16 hh8) (ri_toF (R := iv_R m)) (Or.inl rfl)
        have r2 := iv_Rok (pat := false) (fr := [tm_vc v]) hVV w2 w4 hPv (ri_to hv16 hh8) (ri_toF (R := iv_R m)) (Or.inl rfl)
        have b1 := iv_Rok (pat := false) (fr := [tm_vc v]) hVV w1 w3 hPv ri_ba (ri_baF (R := iv_R m)) (Or.inl rfl)
        have b2 := iv_Rok (pat := false) (fr := [tm_vc v]) hVV w2 w4 hPv ri_ba (ri_baF (R := iv_R m)) (Or.inl rfl)
        have n1 := tm_R_len1 (g := tm_sg n A Z) (w := m (49 + 4 * (ng - 1))) (fr := [tm_vc v]) (ri_baL v) _ 0 (Nat.le_refl _)
        have n2 := tm_R_len1 (g := tm_sg n A Z) (w := m (49 + 4 * (ng - 1) + 1)) (fr := [tm_vc v]) (ri_baL v) _ 0 (Nat.le_refl _)
        have hW2 : iv_W n A Z q (ng + 1) (fun j => if j = ng then false else if j = ng - 1 then true else hy j) m1 := by
          refine iv_W_goals (fun s a b => f1 s (by omega) (by omega)) (by rw [f1 0 (by omega) (by omega)]; exact h48) (by omega) hW (fun j hj => ?_)
          by_cases q1 : j = ng
          · have ej : 49 + 4 * j = 49 + 4 * (ng - 1) + 4 := by omega
            rw [ej, x5, x6]
            refine ⟨⟨sg, b1.1, b2.1, b1.2, b2.2, by omega, by omega⟩, fun z => ?_, fun _ => ⟨x7, x8⟩⟩
            rw [if_pos q1] at z
            cases z
          · by_cases q2 : j = ng - 1
            · rw [q2, x1, x2, x3, x4]
              refine ⟨⟨sg, r1.1, r2.1, r1.2, r2.2, z1, z2⟩, fun _ => ⟨sg, w1, w2, w3, w4, w5, w6⟩, fun z => ?_⟩
              rw [if_neg (by omega), if_pos rfl] at z
              cases z
            · have := hW.2.2.2.2.2.2 j (by omega)
              rw [f1 (49 + 4 * j) (by omega) (by omega), f1 (49 + 4 * j + 1) (by omega) (by omega), f1 (49 + 4 * j + 2) (by omega) (by omega), f1 (49 + 4 * j + 3) (by omega) (by omega)]
              try dsimp only
              rw [if_neg q1, if_neg q2]
              exact this
        refine hp _ _ (li_mk hpr ⟨hM1, hW2, Or.inr ⟨kk, k1, rfl, by omega, k5⟩, hg, hP, hv, li_RVx (fun i hi => f1 (17 + i) (by omega) (by omega)) hR, li_Vx (fun s a b => f1 s (by omega) (by omega)) hV, li_Fx (fun s a b => f1 s (by omega) (by omega)) (fun hj => ?_) hF⟩)
        refine sd_step (ng := ng) (ng' := ng + 1) (by omega) (fun s a b => f1 s (by omega) (by omega)) (fun h => ?_) id hj
        have hst := h (ng - 1) (Nat.le_refl _) (by omega)
        have hba := h ng (by omega) (by omega)
        rw [show 49 + 4 * ng = 49 + 4 * (ng - 1) + 4 by omega] at hba
        exact sd_ind hS hv16 (fun z => ⟨hh8 z, (hfr z).2.2.1⟩) x1 x2 x3 x4 x5 x6 x7 x8 hst hba
      · have a16 : ¬ nI v < 16 := nI_nlt (b := 16) (by omega) hj
        unfold wpX_induct
        dsimp only
        exact br_t ha (br_f hneg (br_f a16 (hp _ _ h2)))
end MB
