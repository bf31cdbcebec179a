/-! 28: the reference: generalize, induct -/
section YI
variable {yn yq yg ya : Int32} {T L K bo bs be fa fr fe hr ft hyA vl ee wb : Nat → Int32} {m : Nat → List Nat} {n ng q : Nat} {A : Nat → List Nat} {Z : Nat → Nat} {R : Nat → List Nat}
set_option maxHeartbeats 400000 in
theorem yl_75 {post : Int32 → SY → Prop} {t : List Nat} {sv s1 s2 : Nat} {hyv : Bool} (hS : tm_SG n A Z) (hg : sg_Y n A Z fa fr fe) (hM : cm_M 64 89 T L m) (hg0 : 1 ≤ ng) (hg8 : ng ≤ 8) (h87 : m 87 = t) (hP : tm_P (tm_sg n A Z) [sv] t) (hsv : sv < 2) (w1 : tm_P (tm_sg n A Z) [s1] (m (49 + 4 * (ng - 1)))) (w2 : tm_P (tm_sg n A Z) [s2] (m (49 + 4 * (ng - 1) + 1))) (wl1 : (m (49 + 4 * (ng - 1))).length ≤ 48) (wl2 : (m (49 + 4 * (ng - 1) + 1)).length ≤ 48) (hh : hyA (ng - 1) = if hyv = true then 1 else 0)
    (hN : (tm_R (tm_sg n A Z) false (m (49 + 4 * (ng - 1))) t t 0).1 + (tm_R (tm_sg n A Z) false (m (49 + 4 * (ng - 1) + 1)) t t 0).1 = 0 → ∀ T' L' bo' bs' be' m', cm_M 64 89 T' L' m' → (∀ s, s < 81 → m' s = m s) → post (-8) (nI n, yq, nI ng, ya, T', L', K, bo', bs', be', fa, fr, fe, hr, ft, hyA, vl, ee, wb))
    (hU : (tm_R (tm_sg n A Z) false (m (49 + 4 * (ng - 1))) t t 0).1 + (tm_R (tm_sg n A Z) false (m (49 + 4 * (ng - 1) + 1)) t t 0).1 ≠ 0 → (∀ v, 8 * sv ≤ v → v < 8 * sv + 8 → yf_p m hyv (49 + 4 * (ng - 1)) v) → ∀ T' L' bo' bs' be' m', cm_M 64 89 T' L' m' → (∀ s, s < 81 → m' s = m s) → post (-4) (nI n, yq, nI ng, ya, T', L', K, bo', bs', be', fa, fr, fe, hr, ft, hyA, vl, ee, wb))
    (hO : ∀ v, (tm_R (tm_sg n A Z) false (m (49 + 4 * (ng - 1))) t t 0).1 + (tm_R (tm_sg n A Z) false (m (49 + 4 * (ng - 1) + 1)) t t 0).1 ≠ 0 → fr_l (yf_p m hyv (49 + 4 * (ng - 1))) (8 * sv) v → ∀ T' L' bo' bs' be' m', cm_M 64 89 T' L' m' → m' (49 + 4 * (ng - 1)) = (tm_R (tm_sg n A Z) false (m (49 + 4 * (ng - 1))) t [tm_vc v] 0).2 → m' (49 + 4 * (ng - 1) + 1) = (tm_R (tm_sg n A Z) false (m (49 + 4 * (ng - 1) + 1)) t [tm_vc v] 0).2 → (∀ s, s < 81 → s ≠ 49 + 4 * (ng - 1) → s ≠ 49 + 4 * (ng - 1) + 1 → m' s = m s) → post (nI ng) (nI n, yq, nI ng, ya, T', L', K, bo', bs', be', fa, fr, fe, hr, ft, hyA, vl, ee, wb)) : wY_generalize_75 post (nI sv) (nI n) yq (nI ng) ya T L K bo bs be fa fr fe hr ft hyA vl ee wb := by
  unfold wY_generalize_75
  refine yp_top hg0 ?_
  have hpx : ((false : Bool) = true ∧ (1 : Int32) = 0) ∨ ((false : Bool) = false ∧ ¬ (1 : Int32) = 0) := Or.inr ⟨rfl, by decide⟩
  refine yp_repl (t := 82) (f := 87) (p := 87) (pat := false) (sf := sv) hS hg hM (by omega) (by omega) (by omega) (by omega) (by omega) (by omega) (by omega) w1 (by rw [h87]; exact hP) hpx wl1 (fun T1 L1 bo1 bs1 be1 hM1 => ?_)
  rw [h87] at hM1 ⊢
  generalize hl9 : tm_R (tm_sg n A Z) false (m (49 + 4 * (ng - 1))) t t 0 = l9 at *
  generalize hm1 : cm_set m 82 (l9.2.take 64) = m1 at hM1
  have f1 : ∀ s, s ≠ 82 → m1 s = m s := fun s a => by rw [← hm1, cm_set_n a]
  rw [nI_1]
  dsimp only
  refine yp_repl (t := 83) (f := 87) (p := 87) (pat := false) (sf := sv) hS hg hM1 (by omega) (by omega) (by omega) (by omega) (by omega) (by omega) (by omega) (by rw [f1 _ (by omega)]; exact w2) (by rw [f1 _ (by omega), h87]; exact hP) hpx (by rw [f1 _ (by omega)]; exact wl2) (fun T2 L2 bo2 bs2 be2 hM2 => ?_)
  rw [f1 87 (by omega), f1 (49 + 4 * (ng - 1) + 1) (by omega), h87] at hM2 ⊢
  have c1 := tm_R_cnt (g := tm_sg n A Z) (pat := false) (w := m (49 + 4 * (ng - 1))) (fr := t) (to := t) _ 0 (Nat.le_refl _)
  have c2 := tm_R_cnt (g := tm_sg n A Z) (pat := false) (w := m (49 + 4 * (ng - 1) + 1)) (fr := t) (to := t) _ 0 (Nat.le_refl _)
  rw [hl9] at c1
  generalize hr9 : tm_R (tm_sg n A Z) false (m (49 + 4 * (ng - 1) + 1)) t t 0 = r9 at *
  generalize hm2 : cm_set m1 83 (r9.2.take 64) = m2 at hM2
  have f2 : ∀ s, s < 82 → m2 s = m s := fun s a => by rw [← hm2, cm_set_n (by omega), f1 s (by omega)]
  have g87 : m2 87 = t := by rw [← hm2, cm_set_n (by omega), f1 _ (by omega), h87]
  rw [nI_add]
  dsimp only
  refine nm_e (pk_eq (l9.1 + r9.1) 0 (fun z => hN z T2 L2 bo2 bs2 be2 m2 hM2 (fun s a => f2 s (by omega))) (fun z => ?_))
  have hyf : ∀ v, yf_p m2 hyv (49 + 4 * (ng - 1)) v ↔ yf_p m hyv (49 + 4 * (ng - 1)) v := by
    intro v
    unfold yf_p
    rw [f2 _ (by omega), f2 _ (by omega), f2 _ (by omega), f2 _ (by omega)]
  refine yp_fresh (hyv := hyv) hM2 hg0 hg8 hsv hh (fun v hv => ?_) (fun hv => br_f (by decide) (hU z (fun v a b => (hyf v).mp (hv v a b)) T2 L2 bo2 bs2 be2 m2 hM2 (fun s a => f2 s (by omega))))
  have hv16 : v < 16 := by
    have := hv.2.1
    omega
  have hv2 : fr_l (yf_p m hyv (49 + 4 * (ng - 1))) (8 * sv) v := ⟨hv.1, hv.2.1, fun y => hv.2.2.1 ((hyf v).mpr y), fun u a b => (hyf u).mp (hv.2.2.2 u a b)⟩
  refine br_t (nI_pos' (by omega)) (nm_e ?_)
  have hM3 := cm_nil hM2 (s := 88) (by omega)
  refine yp_vch hv16 ?_
  refine yp_put (s := 88) hM3 (by omega) (tm_vc_lt hv16) (fun T4 L4 hM4 => ?_)
  rw [cm_set_s, cm_set_set, List.nil_append, cm_tl (K := 64) (by rw [List.length_singleton]; omega)] at hM4
  generalize hm4 : cm_set m2 88 [tm_vc v] = m4 at hM4
  have f4 : ∀ s, s < 82 → m4 s = m s := fun s a => by rw [← hm4, cm_set_n (by omega), f2 s a]
  have h487 : m4 87 = t := by rw [← hm4, cm_set_n (by omega), g87]
  have h488 : m4 88 = [tm_vc v] := by rw [← hm4, cm_set_s]
  have l1 := tm_R_len1 (g := tm_sg n A Z) (w := m (49 + 4 * (ng - 1))) (fr := t) (to := [tm_vc v]) rfl _ 0 (Nat.le_refl _)
  have l2 := tm_R_len1 (g := tm_sg n A Z) (w := m (49 + 4 * (ng - 1) + 1)) (fr := t) (to := [tm_vc v]) rfl _ 0 (Nat.le_refl _)
  dsimp only
  refine yp_repl (t := 82) (f := 87) (p := 88) (pat := false) (sf := sv) hS hg hM4 (by omega) (by omega) (by omega) (by omega) (by omega) (by omega) (by omega) (by rw [f4 _ (by omega)]; exact w1) (by rw [h487]; exact hP) hpx (by rw [f4 _ (by omega)]; exact wl1) (fun T5 L5 bo5 bs5 be5 hM5 => ?_)
  rw [h487, h488, f4 (49 + 4 * (ng - 1)) (by omega), cm_tl (by omega)] at hM5
  generalize hm5 : cm_set m4 82 _ = m5 at hM5
  have f5 : ∀ s, s ≠ 82 → m5 s = m4 s := fun s a => by rw [← hm5, cm_set_n a]
  have h582 : m5 82 = (tm_R (tm_sg n A Z) false (m (49 + 4 * (ng - 1))) t [tm_vc v] 0).2 := by rw [← hm5, cm_set_s]
  dsimp only
  refine yp_repl (t := 83) (f := 87) (p := 88) (pat := false) (sf := sv) hS hg hM5 (by omega) (by omega) (by omega) (by omega) (by omega) (by omega) (by omega) (by rw [f5 _ (by omega), f4 _ (by omega)]; exact w2) (by rw [f5 _ (by omega), h487]; exact hP) hpx (by rw [f5 _ (by omega), f4 _ (by omega)]; exact wl2) (fun T6 L6 bo6 bs6 be6 hM6 => ?_)
  rw [f5 87 (by omega), f5 88 (by omega), h487, h488, f5 (49 + 4 * (ng - 1) + 1) (by omega), f4 (49 + 4 * (ng - 1) + 1) (by omega), cm_tl (by omega)] at hM6
  generalize hm6 : cm_set m5 83 _ = m6 at hM6
  have f6 : ∀ s, s < 82 → m6 s = m s := fun s a => by rw [← hm6, cm_set_n (by omega), f5 _ (by omega), f4 s a]
  have h682 : m6 82 = (tm_R (tm_sg n A Z) false (m (49 + 4 * (ng - 1))) t [tm_vc v] 0).2 := by rw [← hm6, cm_set_n (by omega), h582]
  have h683 : m6 83 = (tm_R (tm_sg n A Z) false (m (49 + 4 * (ng - 1) + 1)) t [tm_vc v] 0).2 := by rw [← hm6, cm_set_s]
  dsimp only
  refine yp_copy (s := 82) hM6 (by omega) (by omega) (by omega) (fun T7 L7 hM7 => ?_)
  rw [h682] at hM7
  dsimp only
  refine yp_copy (s := 83) hM7 (by omega) (by omega) (by omega) (fun T8 L8 hM8 => ?_)
  rw [cm_set_n (j := 83) (by omega), h683] at hM8
  dsimp only
  refine hO v z hv2 T8 L8 bo6 bs6 be6 _ hM8 ?_ cm_set_s ?_
  · rw [cm_set_n (by omega), cm_set_s]
  · intro s a b c
    rw [cm_set_n c, cm_set_n b, f6 s (by omega)]
set_option maxHeartbeats 400000 in
theorem yp_gen {post : Int32 → SY → Prop} {s1 s2 : Nat} {hyv : Bool} (hS : tm_SG n A Z) (hg : sg_Y n A Z fa fr fe) (hM : cm_M 64 89 T L m) (h48 : (m 0).length ≤ 48) (hg8 : ng ≤ 8) (hact : ya = -1 ∨ (∃ k, k < 8 ∧ ya = nI k ∧ 1 ≤ ng)) (w1 : 1 ≤ ng → tm_P (tm_sg n A Z) [s1] (m (49 + 4 * (ng - 1)))) (w2 : 1 ≤ ng → tm_P (tm_sg n A Z) [s2] (m (49 + 4 * (ng - 1) + 1))) (wl1 : 1 ≤ ng → (m (49 + 4 * (ng - 1))).length ≤ 48) (wl2 : 1 ≤ ng → (m (49 + 4 * (ng - 1) + 1)).length ≤ 48) (hh : 1 ≤ ng → hyA (ng - 1) = if hyv = true then 1 else 0)
    (hA : ya = -1 → ∀ T' L' K' bo' bs' be' m', cm_M 64 89 T' L' m' → m' 0 = [] → (∀ s, 1 ≤ s → s < 81 → m' s = m s) → post (-5) (nI n, yq, nI ng, ya, T', L', K', bo', bs', be', fa, fr, fe, hr, ft, hyA, vl, ee, wb))
    (hSy : ya ≠ -1 → tm_ts (tm_sg n A Z) (m 0) = none → ∀ T' L' K' bo' bs' be' m', cm_M 64 89 T' L' m' → m' 0 = [] → (∀ s, 1 ≤ s → s < 81 → m' s = m s) → post (-1) (nI n, yq, nI ng, ya, T', L', K', bo', bs', be', fa, fr, fe, hr, ft, hyA, vl, ee, wb))
    (hF : ∀ sv, ya ≠ -1 → tm_ts (tm_sg n A Z) (m 0) = some sv → (m 0).length = 1 ∧ tm_vn (tm_at (m 0) 0) ≠ none → ∀ T' L' K' bo' bs' be' m', cm_M 64 89 T' L' m' → m' 0 = [] → (∀ s, 1 ≤ s → s < 81 → m' s = m s) → post (-2) (nI n, yq, nI ng, ya, T', L', K', bo', bs', be', fa, fr, fe, hr, ft, hyA, vl, ee, wb))
    (hN : ∀ sv, ya ≠ -1 → tm_ts (tm_sg n A Z) (m 0) = some sv → ¬ ((m 0).length = 1 ∧ tm_vn (tm_at (m 0) 0) ≠ none) → (tm_R (tm_sg n A Z) false (m (49 + 4 * (ng - 1))) (m 0) (m 0) 0).1 + (tm_R (tm_sg n A Z) false (m (49 + 4 * (ng - 1) + 1)) (m 0) (m 0) 0).1 = 0 → ∀ T' L' K' bo' bs' be' m', cm_M 64 89 T' L' m' → m' 0 = [] → (∀ s, 1 ≤ s → s < 81 → m' s = m s) → post (-8) (nI n, yq, nI ng, ya, T', L', K', bo', bs', be', fa, fr, fe, hr, ft, hyA, vl, ee, wb))
    (hU : ∀ sv, ya ≠ -1 → tm_ts (tm_sg n A Z) (m 0) = some sv → ¬ ((m 0).length = 1 ∧ tm_vn (tm_at (m 0) 0) ≠ none) → (tm_R (tm_sg n A Z) false (m (49 + 4 * (ng - 1))) (m 0) (m 0) 0).1 + (tm_R (tm_sg n A Z) false (m (49 + 4 * (ng - 1) + 1)) (m 0) (m 0) 0).1 ≠ 0 → (∀ v, 8 * sv ≤ v → v < 8 * sv + 8 → yf_p m hyv (49 + 4 * (ng - 1)) v) → ∀ T' L' K' bo' bs' be' m', cm_M 64 89 T' L' m' → m' 0 = [] → (∀ s, 1 ≤ s → s < 81 → m' s = m s) → post (-4) (nI n, yq, nI ng, ya, T', L', K', bo', bs', be', fa, fr, fe, hr, ft, hyA, vl, ee, wb))
    (hO : ∀ sv v, ya ≠ -1 → tm_ts (tm_sg n A Z) (m 0) = some sv → ¬ ((m 0).length = 1 ∧ tm_vn (tm_at (m 0) 0) ≠ none) → (tm_R (tm_sg n A Z) false (m (49 + 4 * (ng - 1))) (m 0) (m 0) 0).1 + (tm_R (tm_sg n A Z) false (m (49 + 4 * (ng - 1) + 1)) (m 0) (m 0) 0).1 ≠ 0 → fr_l (yf_p m hyv (49 + 4 * (ng - 1))) (8 * sv) v → ∀ T' L' K' bo' bs' be' m', cm_M 64 89 T' L' m' → m' 0 = [] → m' (49 + 4 * (ng - 1)) = (tm_R (tm_sg n A Z) false (m (49 + 4 * (ng - 1))) (m 0) [tm_vc v] 0).2 → m' (49 + 4 * (ng - 1) + 1) = (tm_R (tm_sg n A Z) false (m (49 + 4 * (ng - 1) + 1)) (m 0) [tm_vc v] 0).2 → (∀ s, 1 ≤ s → s < 81 → s ≠ 49 + 4 * (ng - 1) → s ≠ 49 + 4 * (ng - 1) + 1 → m' s = m s) → post (nI ng) (nI n, yq, nI ng, ya, T', L', K', bo', bs', be', fa, fr, fe, hr, ft, hyA, vl, ee, wb)) : wpY_generalize post (nI n, yq, nI ng, ya, T, L, K, bo, bs, be, fa, fr, fe, hr, ft, hyA, vl, ee, wb) := by
  unfold wpY_generalize
  dsimp only
  refine yp_copy (s := 0) (d := 87) hM (by omega) (by omega) (by omega) (fun T1 L1 hM1 => ?_)
  have hM2 := cm_nil hM1 (s := 0) (by omega)
  generalize hm2 : cm_set (cm_set m 87 (m 0)) 0 [] = m2 at hM2
  have h87 : m2 87 = m 0 := by rw [← hm2, cm_set_n (by omega), cm_set_s]
  have e0 : m2 0 = [] := by rw [← hm2, cm_set_s]
  have hfr : ∀ s, 1 ≤ s → s < 81 → m2 s = m s := fun s a b => by rw [← hm2, cm_set_n (by omega), cm_set_n (by omega)]
  refine nm_e ?_
  dsimp only
  rcases hact with hx | ⟨k, hk, hx, hg0⟩
  · exact br_f (by rw [hx]; decide) (hA hx T1 _ K bo bs be m2 hM2 e0 hfr)
  · have hne : ya ≠ -1 := by rw [hx]; exact xi_neg (by omega)
    refine br_t (by rw [hx]; exact nI_pos' (by omega)) ?_
    have hl87 := cm_len hM2 (s := 87) (by omega)
    rw [h87] at hl87
    rw [hl87]
    have htt : ((m2 87).take (m 0).length).drop 0 = m 0 := by rw [h87, cm_tl (Nat.le_refl _), List.drop_zero]
    refine yp_sort (s := 87) (a := 0) hS hg hM2 (by omega) (by rw [h87]; exact Nat.le_refl _) h48 (by omega) ?_ ?_
    · rw [htt]
      intro sv hts K1
      have p1 := tm_ts_P.mp hts
      have hsv := yi_sv hS p1
      have hb0 := cm_b hM2 (s := 87) (by omega) 0
      rw [h87] at hb0
      refine br_t (nI_pos' (by omega)) ?_
      dsimp only
      refine yp_c (s := 87) (i := 0) hM2 (by omega) (by omega) ?_
      rw [h87, hl87]
      have h75 : ¬ ((m 0).length = 1 ∧ tm_vn (tm_at (m 0) 0) ≠ none) → wY_generalize_75 post (nI sv) (nI n) yq (nI ng) ya T1 (upd L1 0 0) K1 bo bs be fa fr fe hr ft hyA vl ee wb := by
        intro hns
        have a0 := hfr (49 + 4 * (ng - 1)) (by omega) (by omega)
        have a1 := hfr (49 + 4 * (ng - 1) + 1) (by omega) (by omega)
        have hyf : ∀ v, yf_p m2 hyv (49 + 4 * (ng - 1)) v ↔ yf_p m hyv (49 + 4 * (ng - 1)) v := by
          intro v
          unfold yf_p
          rw [a0, a1, hfr _ (by omega) (by omega), hfr _ (by omega) (by omega)]
        refine yl_75 (t := m 0) (s1 := s1) (s2 := s2) (hyv := hyv) hS hg hM2 hg0 hg8 h87 p1 hsv (by rw [a0]; exact w1 hg0) (by rw [a1]; exact w2 hg0) (by rw [a0]; exact wl1 hg0) (by rw [a1]; exact wl2 hg0) (hh hg0) ?_ ?_ ?_
        · rw [a0, a1]
          intro z T3 L3 bo3 bs3 be3 m3 hM3 f3
          exact hN sv hne hts hns z T3 L3 K1 bo3 bs3 be3 m3 hM3 (by rw [f3 0 (by omega), e0]) (fun s a b => by rw [f3 s b, hfr s a b])
        · rw [a0, a1]
          intro z hv T3 L3 bo3 bs3 be3 m3 hM3 f3
          exact hU sv hne hts hns z (fun v a b => (hyf v).mp (hv v a b)) T3 L3 K1 bo3 bs3 be3 m3 hM3 (by rw [f3 0 (by omega), e0]) (fun s a b => by rw [f3 s b, hfr s a b])
        · rw [a0, a1]
          intro v z hv T3 L3 bo3 bs3 be3 m3 hM3 r1 r2 f3
          exact hO sv v hne hts hns z ⟨hv.1, hv.2.1, fun y => hv.2.2.1 ((hyf v).mpr y), fun u a b => (hyf u).mp (hv.2.2.2 u a b)⟩ T3 L3 K1 bo3 bs3 be3 m3 hM3 (by rw [f3 0 (by omega) (by omega) (by omega), e0]) r1 r2 (fun s a b c d => by rw [f3 s b c d, hfr s a b])
      refine pk_eq (m 0).length 1 (fun z => ?_) (fun z => h75 (fun y => z y.1))
      exact yp_vnum (by omega) (fun v hv hv16 => br_f (nI_pos (by omega)) (hF sv hne hts ⟨z, by rw [hv]; exact Option.some_ne_none v⟩ T1 _ K1 bo bs be m2 hM2 e0 hfr)) (fun hv => br_t (by decide) (h75 (fun y => y.2 hv)))
    · rw [htt]
      intro hts K1
      exact br_f (by decide) (hSy hne hts T1 _ K1 bo bs be m2 hM2 e0 hfr)
end YI
