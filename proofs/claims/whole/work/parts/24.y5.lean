/-! 24: the reference: simp, and what useHyp and useLemma share (written by wip/whole/y5.py) -/
section YE
variable {yn yq yg ya : Int32} {T L K bo bs be fa fr fe hr ft hyA vl ee wb : Nat → Int32} {m : Nat → List Nat} {n ng : Nat} {A : Nat → List Nat} {Z : Nat → Nat} {R : Nat → List Nat}
set_option maxHeartbeats 200000 in
theorem yp_simp {post : Int32 → SY → Prop} {k s1 s2 : Nat} (hS : tm_SG n A Z) (hg : sg_Y n A Z fa fr fe) (hRU : tm_RU (tm_sg n A Z) R) (hH : yr_H R hr) (hM : cm_M 64 89 T L m) (hRm : ∀ i, i < 32 → m (1 + i) = R i) (hk : k < 8) (hg0 : 1 ≤ ng) (hg8 : ng ≤ 8) (w1 : tm_P (tm_sg n A Z) [s1] (m (49 + 4 * (ng - 1))) ∧ tm_FC R (m (49 + 4 * (ng - 1)))) (w2 : tm_P (tm_sg n A Z) [s2] (m (49 + 4 * (ng - 1) + 1)) ∧ tm_FC R (m (49 + 4 * (ng - 1) + 1))) (wl1 : (m (49 + 4 * (ng - 1))).length ≤ 48) (wl2 : (m (49 + 4 * (ng - 1) + 1)).length ≤ 48)
    (hL : tm_N (tm_sg n A Z) R (m (49 + 4 * (ng - 1))) = none ∨ tm_N (tm_sg n A Z) R (m (49 + 4 * (ng - 1) + 1)) = none → ∀ T' L' bo' bs' be' m', cm_M 64 89 T' L' m' → (∀ s, s < 81 → m' s = m s) → post (-7) (nI n, yq, nI ng, nI k, T', L', K, bo', bs', be', fa, fr, fe, hr, ft, hyA, vl, ee, wb))
    (hO : ∀ u v T' L' bo' bs' be' m', tm_N (tm_sg n A Z) R (m (49 + 4 * (ng - 1))) = some u → tm_N (tm_sg n A Z) R (m (49 + 4 * (ng - 1) + 1)) = some v → cm_M 64 89 T' L' m' → m' (49 + 4 * (ng - 1)) = u → m' (49 + 4 * (ng - 1) + 1) = v → (∀ s, s < 81 → s ≠ 49 + 4 * (ng - 1) → s ≠ 49 + 4 * (ng - 1) + 1 → m' s = m s) →
      (u ≠ v → post (nI ng) (nI n, yq, nI ng, nI k, T', L', K, bo', bs', be', fa, fr, fe, hr, ft, hyA, vl, ee, wb)) ∧ (u = v → ng = 1 → post 0 (nI n, yq, 0, -1, T', L', K, bo', bs', be', fa, fr, fe, hr, upd ft k 3, hyA, vl, ee, wb)) ∧ (u = v → 1 < ng → post (nI (ng - 1)) (nI n, yq, nI (ng - 1), nI k, T', L', K, bo', bs', be', fa, fr, fe, hr, ft, hyA, vl, ee, wb))) : wpY_simp post (nI n, yq, nI ng, nI k, T, L, K, bo, bs, be, fa, fr, fe, hr, ft, hyA, vl, ee, wb) := by
  unfold wpY_simp
  dsimp only
  refine br_t (nI_pos' (by omega)) ?_
  refine yp_top hg0 ?_
  refine yp_copy (d := 82) hM (by omega) (by omega) (by omega) (fun T1 L1 hM1 => ?_)
  rw [nI_1]
  refine yp_copy (d := 83) hM1 (by omega) (by omega) (by omega) (fun T2 L2 hM2 => ?_)
  rw [cm_set_n (m := m) (j := 49 + 4 * (ng - 1) + 1) (by omega)] at hM2
  generalize hm2 : cm_set (cm_set m 82 (m (49 + 4 * (ng - 1)))) 83 (m (49 + 4 * (ng - 1) + 1)) = m2 at hM2
  have d82 : m2 82 = m (49 + 4 * (ng - 1)) := by rw [← hm2, cm_set_n (by omega), cm_set_s]
  have d83 : m2 83 = m (49 + 4 * (ng - 1) + 1) := by rw [← hm2, cm_set_s]
  have hf2 : ∀ s, s < 81 → m2 s = m s := fun s a => by rw [← hm2, cm_set_n (by omega), cm_set_n (by omega)]
  try dsimp only
  refine yp_norm (s := 82) (S := [s1]) hS hg hRU hH hM2 (fun i hi => by rw [hf2 _ (by omega)]; exact hRm i hi) (by omega) (by omega) (by rw [d82]; exact wl1) (by rw [d82]; exact w1.1) (by rw [d82]; exact w1.2) ?_ ?_
  · rw [d82]
    intro u hu T3 L3 bo3 bs3 be3 m3 hM3 e3 f3
    refine br_f (by decide) ?_
    have d3 : m3 83 = (m (49 + 4 * (ng - 1) + 1)) := by rw [f3 83 (by omega) (by omega), d83]
    try dsimp only
    refine yp_norm (s := 83) (S := [s2]) hS hg hRU hH hM3 (fun i hi => by rw [f3 _ (by omega) (by omega), hf2 _ (by omega)]; exact hRm i hi) (by omega) (by omega) (by rw [d3]; exact wl2) (by rw [d3]; exact w2.1) (by rw [d3]; exact w2.2) ?_ ?_
    · rw [d3]
      intro v hv T4 L4 bo4 bs4 be4 m4 hM4 e4 f4
      refine br_f (by decide) ?_
      try dsimp only
      refine yp_copy (s := 82) hM4 (by omega) (by omega) (by omega) (fun T5 L5 hM5 => ?_)
      rw [f4 82 (by omega) (by omega), e3] at hM5
      try dsimp only
      refine yp_copy (s := 83) hM5 (by omega) (by omega) (by omega) (fun T6 L6 hM6 => ?_)
      rw [cm_set_n (j := 83) (by omega), e4] at hM6
      have q0 : cm_set (cm_set m4 (49 + 4 * (ng - 1)) u) (49 + 4 * (ng - 1) + 1) v (49 + 4 * (ng - 1)) = u := by rw [cm_set_n (by omega), cm_set_s]
      have q1 : cm_set (cm_set m4 (49 + 4 * (ng - 1)) u) (49 + 4 * (ng - 1) + 1) v (49 + 4 * (ng - 1) + 1) = v := cm_set_s
      obtain ⟨o1, o2, o3⟩ := hO u v T6 L6 bo4 bs4 be4 _ hu hv hM6 q0 q1 (fun s a b c => by rw [cm_set_n c, cm_set_n b, f4 s (by omega) (by omega), f3 s (by omega) (by omega), hf2 s a])
      try dsimp only
      refine yp_close hk hM6 hg0 hg8 ?_ ?_ ?_
      · rw [q0, q1]
        exact o1
      · rw [q0, q1]
        exact o2
      · rw [q0, q1]
        exact o3
    · rw [d3]
      intro hv T4 L4 bo4 bs4 be4 m4 hM4 f4
      try dsimp only
      exact br_t rfl (hL (Or.inr hv) T4 L4 bo4 bs4 be4 m4 hM4 (fun s a => by rw [f4 s (by omega) (by omega), f3 s (by omega) (by omega), hf2 s a]))
  · rw [d82]
    intro hu T3 L3 bo3 bs3 be3 m3 hM3 f3
    try dsimp only
    exact br_t rfl (hL (Or.inl hu) T3 L3 bo3 bs3 be3 m3 hM3 (fun s a => by rw [f3 s (by omega) (by omega), hf2 s a]))
set_option maxHeartbeats 200000 in
theorem yp_fin {post : Int32 → SY → Prop} {k s1 s2 sf f p : Nat} {pat : Bool} {fx : Int32} (hS : tm_SG n A Z) (hg : sg_Y n A Z fa fr fe) (hRU : tm_RU (tm_sg n A Z) R) (hH : yr_H R hr) (hM : cm_M 64 89 T L m) (hRm : ∀ i, i < 32 → m (1 + i) = R i) (hk : k < 8) (hg0 : 1 ≤ ng) (hg8 : ng ≤ 8) (w1 : tm_P (tm_sg n A Z) [s1] (m (49 + 4 * (ng - 1))) ∧ tm_FC R (m (49 + 4 * (ng - 1)))) (w2 : tm_P (tm_sg n A Z) [s2] (m (49 + 4 * (ng - 1) + 1)) ∧ tm_FC R (m (49 + 4 * (ng - 1) + 1))) (wl1 : (m (49 + 4 * (ng - 1))).length ≤ 48) (wl2 : (m (49 + 4 * (ng - 1) + 1)).length ≤ 48) (hf : f < 81) (hp : p < 81) (pf : tm_P (tm_sg n A Z) [sf] (m f)) (pp : tm_P (tm_sg n A Z) [sf] (m p)) (fp : tm_FC R (m p)) (hpx : (pat = true ∧ fx = 0) ∨ (pat = false ∧ ¬ fx = 0)) (hh : pat = false ∨ ¬ ((m f).length = 1 ∧ tm_vn (tm_at (m f) 0) ≠ none))
    (hN : (tm_R (tm_sg n A Z) pat (m (49 + 4 * (ng - 1))) (m f) (m p) 0).1 + (tm_R (tm_sg n A Z) pat (m (49 + 4 * (ng - 1) + 1)) (m f) (m p) 0).1 = 0 → ∀ T' L' bo' bs' be' m', cm_M 64 89 T' L' m' → (∀ s, s < 81 → m' s = m s) → post (-8) (nI n, yq, nI ng, nI k, T', L', K, bo', bs', be', fa, fr, fe, hr, ft, hyA, vl, ee, wb))
    (hL : (tm_R (tm_sg n A Z) pat (m (49 + 4 * (ng - 1))) (m f) (m p) 0).1 + (tm_R (tm_sg n A Z) pat (m (49 + 4 * (ng - 1) + 1)) (m f) (m p) 0).1 ≠ 0 → tm_N (tm_sg n A Z) R (tm_R (tm_sg n A Z) pat (m (49 + 4 * (ng - 1))) (m f) (m p) 0).2 = none ∨ tm_N (tm_sg n A Z) R (tm_R (tm_sg n A Z) pat (m (49 + 4 * (ng - 1) + 1)) (m f) (m p) 0).2 = none → ∀ T' L' bo' bs' be' m', cm_M 64 89 T' L' m' → (∀ s, s < 81 → m' s = m s) → post (-7) (nI n, yq, nI ng, nI k, T', L', K, bo', bs', be', fa, fr, fe, hr, ft, hyA, vl, ee, wb))
    (hO : (tm_R (tm_sg n A Z) pat (m (49 + 4 * (ng - 1))) (m f) (m p) 0).1 + (tm_R (tm_sg n A Z) pat (m (49 + 4 * (ng - 1) + 1)) (m f) (m p) 0).1 ≠ 0 → ∀ u v T' L' bo' bs' be' m', tm_N (tm_sg n A Z) R (tm_R (tm_sg n A Z) pat (m (49 + 4 * (ng - 1))) (m f) (m p) 0).2 = some u → tm_N (tm_sg n A Z) R (tm_R (tm_sg n A Z) pat (m (49 + 4 * (ng - 1) + 1)) (m f) (m p) 0).2 = some v → cm_M 64 89 T' L' m' → m' (49 + 4 * (ng - 1)) = u → m' (49 + 4 * (ng - 1) + 1) = v → (∀ s, s < 81 → s ≠ 49 + 4 * (ng - 1) → s ≠ 49 + 4 * (ng - 1) + 1 → m' s = m s) →
      (u ≠ v → post (nI ng) (nI n, yq, nI ng, nI k, T', L', K, bo', bs', be', fa, fr, fe, hr, ft, hyA, vl, ee, wb)) ∧ (u = v → ng = 1 → post 0 (nI n, yq, 0, -1, T', L', K, bo', bs', be', fa, fr, fe, hr, upd ft k 3, hyA, vl, ee, wb)) ∧ (u = v → 1 < ng → post (nI (ng - 1)) (nI n, yq, nI (ng - 1), nI k, T', L', K, bo', bs', be', fa, fr, fe, hr, ft, hyA, vl, ee, wb))) : wpY_finish post (nI n, yq, nI ng, nI k, T, L, K, bo, bs, be, fa, fr, fe, hr, ft, hyA, vl, ee, wb) (nI f) (nI p) fx := by
  unfold wpY_finish
  dsimp only
  have hV := (tm_sg_GS hS).1
  refine yp_top hg0 ?_
  refine yp_repl (t := 82) (pat := pat) hS hg hM (by omega) (by omega) (by omega) (by omega) (by omega) (by omega) (by omega) w1.1 pf hpx wl1 (fun T1 L1 bo1 bs1 be1 hM1 => ?_)
  rw [nI_1]
  have j1 : cm_set m 82 ((tm_R (tm_sg n A Z) pat (m (49 + 4 * (ng - 1))) (m f) (m p) 0).2.take 64) (49 + 4 * (ng - 1) + 1) = m (49 + 4 * (ng - 1) + 1) := cm_set_n (by omega)
  have j2 : cm_set m 82 ((tm_R (tm_sg n A Z) pat (m (49 + 4 * (ng - 1))) (m f) (m p) 0).2.take 64) f = m f := cm_set_n (by omega)
  have j3 : cm_set m 82 ((tm_R (tm_sg n A Z) pat (m (49 + 4 * (ng - 1))) (m f) (m p) 0).2.take 64) p = m p := cm_set_n (by omega)
  refine yp_repl (t := 83) (pat := pat) hS hg hM1 (by omega) (by omega) (by omega) (by omega) (by omega) (by omega) (by omega) (by rw [j1]; exact w2.1) (by rw [j2]; exact pf) hpx (by rw [j1]; exact wl2) (fun T2 L2 bo2 bs2 be2 hM2 => ?_)
  rw [j1, j2, j3] at hM2 ⊢
  have c1 := tm_R_cnt (g := tm_sg n A Z) (pat := pat) (w := m (49 + 4 * (ng - 1))) (fr := m f) (to := m p) _ 0 (Nat.le_refl _)
  have c2 := tm_R_cnt (g := tm_sg n A Z) (pat := pat) (w := m (49 + 4 * (ng - 1) + 1)) (fr := m f) (to := m p) _ 0 (Nat.le_refl _)
  have c1 := Nat.le_trans c1 (show _ ≤ 48 by omega)
  have c2 := Nat.le_trans c2 (show _ ≤ 48 by omega)
  have x1 := iv_Rok hV w1.1 w1.2 pf pp fp hh
  have x2 := iv_Rok hV w2.1 w2.2 pf pp fp hh
  clear w1 w2 wl1 wl2
  generalize hl9 : (tm_R (tm_sg n A Z) pat (m (49 + 4 * (ng - 1))) (m f) (m p) 0) = l9 at *
  generalize hr9 : (tm_R (tm_sg n A Z) pat (m (49 + 4 * (ng - 1) + 1)) (m f) (m p) 0) = r9 at *
  generalize hm2 : cm_set (cm_set m 82 (l9.2.take 64)) 83 (r9.2.take 64) = m2 at hM2
  have d82 : m2 82 = l9.2.take 64 := by rw [← hm2, cm_set_n (by omega), cm_set_s]
  have d83 : m2 83 = r9.2.take 64 := by rw [← hm2, cm_set_s]
  have hf2 : ∀ s, s < 81 → m2 s = m s := fun s a => by rw [← hm2, cm_set_n (by omega), cm_set_n (by omega)]
  have l82 := cm_len hM2 (s := 82) (by omega)
  have l83 := cm_len hM2 (s := 83) (by omega)
  rw [d82, List.length_take] at l82
  rw [d83, List.length_take] at l83
  rw [nI_add]
  refine nm_e (pk_eq (l9.1 + r9.1) 0 (fun z => hN z T2 L2 bo2 bs2 be2 m2 hM2 hf2) (fun z => ?_))
  have hL := hL z
  have hO := hO z
  dsimp only
  rw [l82, l83]
  have hLN : 48 < l9.2.length ∨ 48 < r9.2.length → post (-7) (nI n, yq, nI ng, nI k, T2, L2, K, bo2, bs2, be2, fa, fr, fe, hr, ft, hyA, vl, ee, wb) := by
    intro h
    refine hL ?_ T2 L2 bo2 bs2 be2 m2 hM2 hf2
    rcases h with h | h
    · exact Or.inl (if_neg (by omega))
    · exact Or.inr (if_neg (by omega))
  refine pk_lt 48 (min 64 l9.2.length) (fun y => hLN (Or.inl (by omega))) (fun y1 => pk_le (min 64 r9.2.length) 48 (fun y2 => ?_) (fun y => hLN (Or.inr (by omega))))
  rw [cm_tl (by omega)] at d82 d83
  have w1 := x1
  have w2 := x2
  have wl1 : l9.2.length ≤ 48 := by omega
  have wl2 : r9.2.length ≤ 48 := by omega
  try dsimp only
  refine yp_norm (s := 82) (S := [s1]) hS hg hRU hH hM2 (fun i hi => by rw [hf2 _ (by omega)]; exact hRm i hi) (by omega) (by omega) (by rw [d82]; exact wl1) (by rw [d82]; exact w1.1) (by rw [d82]; exact w1.2) ?_ ?_
  · rw [d82]
    intro u hu T3 L3 bo3 bs3 be3 m3 hM3 e3 f3
    refine br_f (by decide) ?_
    have d3 : m3 83 = r9.2 := by rw [f3 83 (by omega) (by omega), d83]
    try dsimp only
    refine yp_norm (s := 83) (S := [s2]) hS hg hRU hH hM3 (fun i hi => by rw [f3 _ (by omega) (by omega), hf2 _ (by omega)]; exact hRm i hi) (by omega) (by omega) (by rw [d3]; exact wl2) (by rw [d3]; exact w2.1) (by rw [d3]; exact w2.2) ?_ ?_
    · rw [d3]
      intro v hv T4 L4 bo4 bs4 be4 m4 hM4 e4 f4
      refine br_f (by decide) ?_
      try dsimp only
      refine yp_copy (s := 82) hM4 (by omega) (by omega) (by omega) (fun T5 L5 hM5 => ?_)
      rw [f4 82 (by omega) (by omega), e3] at hM5
      try dsimp only
      refine yp_copy (s := 83) hM5 (by omega) (by omega) (by omega) (fun T6 L6 hM6 => ?_)
      rw [cm_set_n (j := 83) (by omega), e4] at hM6
      have q0 : cm_set (cm_set m4 (49 + 4 * (ng - 1)) u) (49 + 4 * (ng - 1) + 1) v (49 + 4 * (ng - 1)) = u := by rw [cm_set_n (by omega), cm_set_s]
      have q1 : cm_set (cm_set m4 (49 + 4 * (ng - 1)) u) (49 + 4 * (ng - 1) + 1) v (49 + 4 * (ng - 1) + 1) = v := cm_set_s
      obtain ⟨o1, o2, o3⟩ := hO u v T6 L6 bo4 bs4 be4 _ hu hv hM6 q0 q1 (fun s a b c => by rw [cm_set_n c, cm_set_n b, f4 s (by omega) (by omega), f3 s (by omega) (by omega), hf2 s a])
      try dsimp only
      refine yp_close hk hM6 hg0 hg8 ?_ ?_ ?_
      · rw [q0, q1]
        exact o1
      · rw [q0, q1]
        exact o2
      · rw [q0, q1]
        exact o3
    · rw [d3]
      intro hv T4 L4 bo4 bs4 be4 m4 hM4 f4
      try dsimp only
      exact br_t rfl (hL (Or.inr hv) T4 L4 bo4 bs4 be4 m4 hM4 (fun s a => by rw [f4 s (by omega) (by omega), f3 s (by omega) (by omega), hf2 s a]))
  · rw [d82]
    intro hu T3 L3 bo3 bs3 be3 m3 hM3 f3
    try dsimp only
    exact br_t rfl (hL (Or.inl hu) T3 L3 bo3 bs3 be3 m3 hM3 (fun s a => by rw [f3 s (by omega) (by omega), hf2 s a]))
end YE
