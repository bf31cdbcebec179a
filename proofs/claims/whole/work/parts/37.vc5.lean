/-! 37: generalize, induct, evaluate -/
theorem i_vc_generalize {k : Nat} {u : SX} {v : SY} (I : i_Rel k u v) (hk : k + 5 ≤ 2560) : wpX_generalize (fun r u' => wpY_generalize (fun r' v' => r' = r ∧ i_Rel (k + 5) u' v') v) u := by
  obtain ⟨n, q, ng, A, Z, hy, pr, val, e2, act, mX, mY, T, L, ay, gs, so, E, B, pv, vl, el, T', L', K, bo, bs, be, fa, fr, fe, hr, ft, hyA, vl', ee, wb, rfl, rfl, hI⟩ := I
  have hI0 := hI
  obtain ⟨hMX, hMY, hW, hL, hA, hsX, hsY, hP, hH, hHy, hvX, hvY⟩ := hI
  rcases re_act hI0 with ⟨rfl, rfl⟩ | ⟨kk, k1, k2, rfl, k3, k4, k5⟩
  · have hnn : ¬ ((-1 : Int32) ≠ -1) := fun z => z rfl
    refine xp_gen hW hsX hMX (Or.inl rfl) (fun _ T1 L1 E1 B1 m1 hM1 x0 f1 => ?_) (fun z => absurd z hnn) (fun _ z => absurd z hnn) (fun _ z => absurd z hnn) (fun _ z => absurd z hnn) (fun _ _ z => absurd z hnn)
    refine yp_gen (s1 := 0) (s2 := 0) (hyv := false) hW.1 hsY hMY (by rw [hL.1]; exact hW.2.2.2.1) (by omega) (Or.inl rfl) (fun z => by omega) (fun z => by omega) (fun z => by omega) (fun z => by omega) (fun z => by omega) (fun _ T2 L2 K2 bo2 bs2 be2 m2 hM2 y0 f2 => ⟨rfl, re_mk (re_keep0 hI0 hM1 f1 hM2 f2 (by rw [x0, y0]) (by rw [x0]; exact Nat.zero_le _))⟩) (fun z => absurd z hnn) (fun _ z => absurd z hnn) (fun _ z => absurd z hnn) (fun _ z => absurd z hnn) (fun _ _ z => absurd z hnn)
  ·
    have hS := hW.1
    have hRU := hW.2.2.2.2.2.1.1
    have hq8 := hW.2.1
    have h48 := hW.2.2.2.1
    have e0 : mY 0 = mX 0 := hL.1
    obtain ⟨⟨sg, w1, w2, w3, w4, w5, w6⟩, hyt, hyf⟩ := hW.2.2.2.2.2.2 (ng - 1) (by omega)
    obtain ⟨l1, l2, l3⟩ := hL.2.2.2 (ng - 1) (by omega)
    have hRm : ∀ i, i < 32 → mY (1 + i) = iv_R mX i := hL.2.2.1
    have hV := (tm_sg_GS hS).1
    have hfrp : ∀ v, yf_p mY (hy (ng - 1)) (49 + 4 * (ng - 1)) v ↔ fr_p mX (49 + 4 * (ng - 1)) v := by
      intro v
      unfold yf_p fr_p
      rw [l1, l2]
      cases hyv : hy (ng - 1) with
      | true =>
        rw [(l3 hyv).1, (l3 hyv).2]
        constructor
        · rintro (a | a | ⟨_, a | a⟩)
          · exact Or.inl a
          · exact Or.inr (Or.inl a)
          · exact Or.inr (Or.inr (Or.inl a))
          · exact Or.inr (Or.inr (Or.inr a))
        · rintro (a | a | a | a)
          · exact Or.inl a
          · exact Or.inr (Or.inl a)
          · exact Or.inr (Or.inr ⟨rfl, Or.inl a⟩)
          · exact Or.inr (Or.inr ⟨rfl, Or.inr a⟩)
      | false =>
        rw [(hyf hyv).1, (hyf hyv).2]
        constructor
        · rintro (a | a | ⟨z, _⟩)
          · exact Or.inl a
          · exact Or.inr (Or.inl a)
          · cases z
        · rintro (a | a | a | a)
          · exact Or.inl a
          · exact Or.inr (Or.inl a)
          · cases a
          · cases a
    have hfrl : ∀ lo v, fr_l (yf_p mY (hy (ng - 1)) (49 + 4 * (ng - 1))) lo v → fr_l (fr_p mX (49 + 4 * (ng - 1))) lo v := fun lo v h => ⟨h.1, h.2.1, fun y => h.2.2.1 ((hfrp v).mpr y), fun u a b => (hfrp u).mp (h.2.2.2 u a b)⟩
    have hne : nI kk ≠ (-1 : Int32) := xi_neg (by omega)
    have hYG : ∀ (Q : Int32 → SY → Prop), (tm_ts (tm_sg n A Z) (mX 0) = none → ∀ T2 L2 K2 bo2 bs2 be2 m2, cm_M 64 89 T2 L2 m2 → m2 0 = [] → (∀ s, 1 ≤ s → s < 81 → m2 s = mY s) → Q (-1) (nI n, nI q, nI ng, nI kk, T2, L2, K2, bo2, bs2, be2, fa, fr, fe, hr, ft, hyA, vl', ee, wb)) → (∀ sv, tm_ts (tm_sg n A Z) (mX 0) = some sv → (mX 0).length = 1 ∧ tm_vn (tm_at (mX 0) 0) ≠ none → ∀ T2 L2 K2 bo2 bs2 be2 m2, cm_M 64 89 T2 L2 m2 → m2 0 = [] → (∀ s, 1 ≤ s → s < 81 → m2 s = mY s) → Q (-2) (nI n, nI q, nI ng, nI kk, T2, L2, K2, bo2, bs2, be2, fa, fr, fe, hr, ft, hyA, vl', ee, wb)) → (∀ sv, tm_ts (tm_sg n A Z) (mX 0) = some sv → ¬ ((mX 0).length = 1 ∧ tm_vn (tm_at (mX 0) 0) ≠ none) → (tm_R (tm_sg n A Z) false (mX (49 + 4 * (ng - 1))) (mX 0) (mX 0) 0).1 + (tm_R (tm_sg n A Z) false (mX (49 + 4 * (ng - 1) + 1)) (mX 0) (mX 0) 0).1 = 0 → ∀ T2 L2 K2 bo2 bs2 be2 m2, cm_M 64 89 T2 L2 m2 → m2 0 = [] → (∀ s, 1 ≤ s → s < 81 → m2 s = mY s) → Q (-8) (nI n, nI q, nI ng, nI kk, T2, L2, K2, bo2, bs2, be2, fa, fr, fe, hr, ft, hyA, vl', ee, wb)) → (∀ sv, tm_ts (tm_sg n A Z) (mX 0) = some sv → ¬ ((mX 0).length = 1 ∧ tm_vn (tm_at (mX 0) 0) ≠ none) → (tm_R (tm_sg n A Z) false (mX (49 + 4 * (ng - 1))) (mX 0) (mX 0) 0).1 + (tm_R (tm_sg n A Z) false (mX (49 + 4 * (ng - 1) + 1)) (mX 0) (mX 0) 0).1 ≠ 0 → (∀ v, 8 * sv ≤ v → v < 8 * sv + 8 → fr_p mX (49 + 4 * (ng - 1)) v) → ∀ T2 L2 K2 bo2 bs2 be2 m2, cm_M 64 89 T2 L2 m2 → m2 0 = [] → (∀ s, 1 ≤ s → s < 81 → m2 s = mY s) → Q (-4) (nI n, nI q, nI ng, nI kk, T2, L2, K2, bo2, bs2, be2, fa, fr, fe, hr, ft, hyA, vl', ee, wb)) →
        (∀ sv v, tm_ts (tm_sg n A Z) (mX 0) = some sv → ¬ ((mX 0).length = 1 ∧ tm_vn (tm_at (mX 0) 0) ≠ none) → (tm_R (tm_sg n A Z) false (mX (49 + 4 * (ng - 1))) (mX 0) (mX 0) 0).1 + (tm_R (tm_sg n A Z) false (mX (49 + 4 * (ng - 1) + 1)) (mX 0) (mX 0) 0).1 ≠ 0 → fr_l (fr_p mX (49 + 4 * (ng - 1))) (8 * sv) v → ∀ T2 L2 K2 bo2 bs2 be2 m2, cm_M 64 89 T2 L2 m2 → m2 0 = [] → m2 (49 + 4 * (ng - 1)) = (tm_R (tm_sg n A Z) false (mX (49 + 4 * (ng - 1))) (mX 0) [tm_vc v] 0).2 → m2 (49 + 4 * (ng - 1) + 1) = (tm_R (tm_sg n A Z) false (mX (49 + 4 * (ng - 1) + 1)) (mX 0) [tm_vc v] 0).2 → (∀ s, 1 ≤ s → s < 81 → s ≠ 49 + 4 * (ng - 1) → s ≠ 49 + 4 * (ng - 1) + 1 → m2 s = mY s) → Q (nI ng) (nI n, nI q, nI ng, nI kk, T2, L2, K2, bo2, bs2, be2, fa, fr, fe, hr, ft, hyA, vl', ee, wb)) → wpY_generalize Q (nI n, nI q, nI ng, nI kk, T', L', K, bo, bs, be, fa, fr, fe, hr, ft, hyA, vl', ee, wb) := by
      intro Q c1 c2 c3 c4 c5
      refine yp_gen (s1 := sg) (s2 := sg) (hyv := hy (ng - 1)) hS hsY hMY (by rw [e0]; exact h48) k4 (Or.inr ⟨kk, k2, rfl, k3⟩) (fun _ => by rw [l1]; exact w1) (fun _ => by rw [l2]; exact w2) (fun _ => by rw [l1]; exact w5) (fun _ => by rw [l2]; exact w6) (fun _ => hHy (ng - 1) (by omega)) (fun z => absurd z hne) ?_ ?_ ?_ ?_ ?_
      · rw [e0]
        exact fun _ => c1
      · rw [e0]
        exact fun sv _ => c2 sv
      · rw [e0, l1, l2]
        exact fun sv _ => c3 sv
      · rw [e0, l1, l2]
        exact fun sv _ a b c d => c4 sv a b c (fun v x y => (hfrp v).mp (d v x y))
      · rw [e0, l1, l2]
        exact fun sv v _ a b c d => c5 sv v a b c (hfrl _ v d)
    refine xp_gen hW hsX hMX (Or.inr ⟨kk, k2, rfl, k3⟩) (fun z => absurd z hne) (fun _ hts T1 L1 E1 B1 m1 hM1 x0 f1 => ?_) (fun sv _ hts hsi T1 L1 E1 B1 m1 hM1 x0 f1 => ?_) (fun sv _ hts hns hz T1 L1 E1 B1 m1 hM1 x0 f1 => ?_) (fun sv _ hts hns hz hfr T1 L1 E1 B1 m1 hM1 x0 f1 => ?_) (fun sv v _ hts hns hz hfr T1 L1 E1 B1 m1 hM1 x0 x1 x2 f1 => ?_)
    · have hkeep : ∀ T2 L2 m2, cm_M 64 89 T2 L2 m2 → m2 0 = [] → (∀ s, 1 ≤ s → s < 81 → m2 s = mY s) → _ := fun T2 L2 m2 hM2 y0 f2 => re_keep0 hI0 hM1 f1 hM2 f2 (by rw [x0, y0]) (by rw [x0]; exact Nat.zero_le _)
      exact hYG _ (fun _ T2 L2 K2 bo2 bs2 be2 m2 hM2 y0 f2 => ⟨rfl, re_mk (hkeep T2 L2 m2 hM2 y0 f2)⟩) (fun sv z => by rw [hts] at z; cases z) (fun sv z => by rw [hts] at z; cases z) (fun sv z => by rw [hts] at z; cases z) (fun sv v z => by rw [hts] at z; cases z)
    · have hkeep : ∀ T2 L2 m2, cm_M 64 89 T2 L2 m2 → m2 0 = [] → (∀ s, 1 ≤ s → s < 81 → m2 s = mY s) → _ := fun T2 L2 m2 hM2 y0 f2 => re_keep0 hI0 hM1 f1 hM2 f2 (by rw [x0, y0]) (by rw [x0]; exact Nat.zero_le _)
      exact hYG _ (fun z => by rw [hts] at z; cases z) (fun _ _ _ T2 L2 K2 bo2 bs2 be2 m2 hM2 y0 f2 => ⟨rfl, re_mk (hkeep T2 L2 m2 hM2 y0 f2)⟩) (fun _ _ z => absurd hsi z) (fun _ _ z => absurd hsi z) (fun _ _ _ z => absurd hsi z)
    · have hkeep : ∀ T2 L2 m2, cm_M 64 89 T2 L2 m2 → m2 0 = [] → (∀ s, 1 ≤ s → s < 81 → m2 s = mY s) → _ := fun T2 L2 m2 hM2 y0 f2 => re_keep0 hI0 hM1 f1 hM2 f2 (by rw [x0, y0]) (by rw [x0]; exact Nat.zero_le _)
      exact hYG _ (fun z => by rw [hts] at z; cases z) (fun _ _ z => absurd z hns) (fun _ _ _ _ T2 L2 K2 bo2 bs2 be2 m2 hM2 y0 f2 => ⟨rfl, re_mk (hkeep T2 L2 m2 hM2 y0 f2)⟩) (fun _ _ _ z => absurd hz z) (fun _ _ _ _ z => absurd hz z)
    · have hkeep : ∀ T2 L2 m2, cm_M 64 89 T2 L2 m2 → m2 0 = [] → (∀ s, 1 ≤ s → s < 81 → m2 s = mY s) → _ := fun T2 L2 m2 hM2 y0 f2 => re_keep0 hI0 hM1 f1 hM2 f2 (by rw [x0, y0]) (by rw [x0]; exact Nat.zero_le _)
      refine hYG _ (fun z => by rw [hts] at z; cases z) (fun _ _ z => absurd z hns) (fun _ _ _ z => absurd z hz) (fun _ _ _ _ _ T2 L2 K2 bo2 bs2 be2 m2 hM2 y0 f2 => ⟨rfl, re_mk (hkeep T2 L2 m2 hM2 y0 f2)⟩) (fun sv' v z _ _ hv => ?_)
      rw [hts] at z
      obtain rfl := Option.some.inj z
      exact absurd (hfr v hv.1 hv.2.1) hv.2.2.1
    · refine hYG _ (fun z => by rw [hts] at z; cases z) (fun _ _ z => absurd z hns) (fun _ _ _ z => absurd z hz) (fun sv' z _ _ hv => ?_) (fun sv' v' z _ _ hv T2 L2 K2 bo2 bs2 be2 m2 hM2 y0 y1 y2 f2 => ?_)
      · rw [hts] at z
        obtain rfl := Option.some.inj z
        exact absurd (hv v hfr.1 hfr.2.1) hfr.2.2.1
      · rw [hts] at z
        obtain rfl := Option.some.inj z
        obtain rfl := fr_u hfr hv
        refine ⟨rfl, re_mk (re_goal hI0 k3 hM1 f1 hM2 f2 (by rw [x0, y0]) (by rw [x0]; exact Nat.zero_le _) (by rw [x1, y1]) (by rw [x2, y2]) ?_)⟩
        rw [x1, x2]
        have p1 := tm_ts_P.mp hts
        have hsv := yi_sv hS p1
        have hv1 := hfr.1
        have hv2 := hfr.2.1
        have hPv := yi_Pv (n := n) (A := A) (Z := Z) (v := v) (by omega)
        rw [show (if v < 8 then 0 else 1) = sv by split <;> omega] at hPv
        have hFv : tm_FC (iv_R mX) [tm_vc v] := by
          intro c hc hf
          rw [List.mem_singleton.mp hc] at hf
          unfold tm_vc at hf
          split at hf <;> omega
        have r1 := iv_Rok (pat := false) (fr := mX 0) (to := [tm_vc v]) hV w1 w3 p1 hPv hFv (Or.inl rfl)
        have r2 := iv_Rok (pat := false) (fr := mX 0) (to := [tm_vc v]) hV w2 w4 p1 hPv hFv (Or.inl rfl)
        have m1 := tm_R_len1 (g := tm_sg n A Z) (w := mX (49 + 4 * (ng - 1))) (fr := mX 0) (to := [tm_vc v]) rfl _ 0 (Nat.le_refl _)
        have m2 := tm_R_len1 (g := tm_sg n A Z) (w := mX (49 + 4 * (ng - 1) + 1)) (fr := mX 0) (to := [tm_vc v]) rfl _ 0 (Nat.le_refl _)
        exact ⟨sg, r1.1, r2.1, r1.2, r2.2, by omega, by omega⟩
theorem i_vc_evaluate {k : Nat} {u : SX} {v : SY} (I : i_Rel k u v) (hk : k + 5 ≤ 2560) (v1 : Int32) : wpX_evaluate (fun r u' => wpY_evaluate (fun r' v' => r' = r ∧ i_Rel (k + 5) u' v') v v1) u v1 := by
  have I2 := I
  obtain ⟨n, q, ng, A, Z, hy, pr, val, e2, act, mX, mY, T, L, ay, gs, so, E, B, pv, vl, el, T', L', K, bo, bs, be, fa, fr, fe, hr, ft, hyA, vl', ee, wb, rfl, rfl, hI⟩ := I
  have hI0 := hI
  obtain ⟨hMX, hMY, hW, hL, hA, hsX, hsY, hP, hH, hHy, hvX, hvY⟩ := hI
  have hq8 := hW.2.1
  by_cases h0 : v1 < 0
  · unfold wpX_evaluate wpY_evaluate
    dsimp only
    exact br_t h0 (br_t h0 ⟨rfl, I2⟩)
  · obtain ⟨j, hj, rfl⟩ := nI_of h0
    by_cases hjq : j < q
    · have hS := hW.1
      have hRU := hW.2.2.2.2.2.1.1
      have hRm : ∀ i, i < 32 → mY (1 + i) = iv_R mX i := hL.2.2.1
      obtain ⟨sg, w1, w2, w3, w4, w5, w6⟩ := hW.2.2.2.2.1.1 j hjq
      have l1 : mY (33 + 2 * j) = mX (1 + 2 * j) := hL.2.1 (2 * j) (by omega)
      have l2 : mY (33 + 2 * j + 1) = mX (1 + 2 * j + 1) := hL.2.1 (2 * j + 1) (by omega)
      refine xp_eval hvX hW hsX hMX hjq (fun hno T1 L1 E1 B1 m1 hM1 f1 => ?_) (fun x y hx hyy T1 L1 E1 B1 m1 hM1 f1 => ⟨fun e => ?_, fun e => ?_⟩)
      · refine yp_eval (R := iv_R mX) (sv := sg) hS hsY hRU hH hMY hvY hRm hjq hq8 (by rw [l1]; exact w1) (by rw [l2]; exact w2) (by rw [l1]; exact w3) (by rw [l2]; exact w4) (by rw [l1]; exact w5) (by rw [l2]; exact w6) ?_ ?_ <;> rw [l1, l2]
        · exact fun _ T2 L2 bo2 bs2 be2 m2 hM2 f2 => ⟨rfl, re_mk (re_keep hI0 hM1 f1 hM2 f2)⟩
        · intro x y hx hyy
          rcases hno with z | z; (rw [hx] at z; cases z); (rw [hyy] at z; cases z)
      · refine yp_eval (R := iv_R mX) (sv := sg) hS hsY hRU hH hMY hvY hRm hjq hq8 (by rw [l1]; exact w1) (by rw [l2]; exact w2) (by rw [l1]; exact w3) (by rw [l2]; exact w4) (by rw [l1]; exact w5) (by rw [l2]; exact w6) ?_ ?_ <;> rw [l1, l2]
        · intro z
          rcases z with z | z; (rw [hx] at z; cases z); (rw [hyy] at z; cases z)
        · intro x' y' hx' hy' T2 L2 bo2 bs2 be2 m2 hM2 f2
          rw [hx] at hx'
          rw [hyy] at hy'
          obtain rfl := Option.some.inj hx'
          obtain rfl := Option.some.inj hy'
          exact ⟨fun _ => ⟨rfl, re_mk (re_keep hI0 hM1 f1 hM2 f2)⟩, fun z => absurd e z⟩
      · refine yp_eval (R := iv_R mX) (sv := sg) hS hsY hRU hH hMY hvY hRm hjq hq8 (by rw [l1]; exact w1) (by rw [l2]; exact w2) (by rw [l1]; exact w3) (by rw [l2]; exact w4) (by rw [l1]; exact w5) (by rw [l2]; exact w6) ?_ ?_ <;> rw [l1, l2]
        · intro z
          rcases z with z | z; (rw [hx] at z; cases z); (rw [hyy] at z; cases z)
        · intro x' y' hx' hy' T2 L2 bo2 bs2 be2 m2 hM2 f2
          rw [hx] at hx'
          rw [hyy] at hy'
          obtain rfl := Option.some.inj hx'
          obtain rfl := Option.some.inj hy'
          exact ⟨fun z => absurd z e, fun _ => ⟨rfl, re_mk (re_keep hI0 hM1 f1 hM2 f2)⟩⟩
    · have h1 : ¬ nI j < nI q := nI_nlt (by omega) hj
      unfold wpX_evaluate wpY_evaluate
      dsimp only
      exact br_f h0 (br_f h1 (br_f h0 (br_f h1 ⟨rfl, I2⟩)))
