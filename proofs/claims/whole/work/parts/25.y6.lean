/-! 25: the reference: useHyp, useLemma, defineRule -/
section YF
variable {yn yq yg ya : Int32} {T L K bo bs be fa fr fe hr ft hyA vl ee wb : Nat → Int32} {m : Nat → List Nat} {n ng : Nat} {A : Nat → List Nat} {Z : Nat → Nat} {R : Nat → List Nat}
set_option maxHeartbeats 200000 in
theorem yp_useHyp {post : Int32 → SY → Prop} {k s1 s2 f p : Nat} {x1 : Int32} {hyv : Bool} (hS : tm_SG n A Z) (hg : sg_Y n A Z fa fr fe) (hRU : tm_RU (tm_sg n A Z) R) (hH : yr_H R hr) (hM : cm_M 64 89 T L m) (hRm : ∀ i, i < 32 → m (1 + i) = R i) (hk : k < 8) (hg0 : 1 ≤ ng) (hg8 : ng ≤ 8) (w1 : tm_P (tm_sg n A Z) [s1] (m (49 + 4 * (ng - 1))) ∧ tm_FC R (m (49 + 4 * (ng - 1)))) (w2 : tm_P (tm_sg n A Z) [s2] (m (49 + 4 * (ng - 1) + 1)) ∧ tm_FC R (m (49 + 4 * (ng - 1) + 1))) (wl1 : (m (49 + 4 * (ng - 1))).length ≤ 48) (wl2 : (m (49 + 4 * (ng - 1) + 1)).length ≤ 48) (hh : hyA (ng - 1) = if hyv = true then 1 else 0) (hyt : hyv = true → ∃ sf, tm_P (tm_sg n A Z) [sf] (m f) ∧ tm_P (tm_sg n A Z) [sf] (m p) ∧ tm_FC R (m p)) (hfp : (f = 49 + 4 * (ng - 1) + 2 ∧ p = 49 + 4 * (ng - 1) + 3 ∧ x1 = 0) ∨ (f = 49 + 4 * (ng - 1) + 3 ∧ p = 49 + 4 * (ng - 1) + 2 ∧ x1 = 1))
    (hNH : hyv = false → post (-5) (nI n, yq, nI ng, nI k, T, L, K, bo, bs, be, fa, fr, fe, hr, ft, hyA, vl, ee, wb))
    (hN : hyv = true → (tm_R (tm_sg n A Z) false (m (49 + 4 * (ng - 1))) (m f) (m p) 0).1 + (tm_R (tm_sg n A Z) false (m (49 + 4 * (ng - 1) + 1)) (m f) (m p) 0).1 = 0 → ∀ T' L' bo' bs' be' m', cm_M 64 89 T' L' m' → (∀ s, s < 81 → m' s = m s) → post (-8) (nI n, yq, nI ng, nI k, T', L', K, bo', bs', be', fa, fr, fe, hr, ft, hyA, vl, ee, wb))
    (hL : hyv = true → (tm_R (tm_sg n A Z) false (m (49 + 4 * (ng - 1))) (m f) (m p) 0).1 + (tm_R (tm_sg n A Z) false (m (49 + 4 * (ng - 1) + 1)) (m f) (m p) 0).1 ≠ 0 → tm_N (tm_sg n A Z) R (tm_R (tm_sg n A Z) false (m (49 + 4 * (ng - 1))) (m f) (m p) 0).2 = none ∨ tm_N (tm_sg n A Z) R (tm_R (tm_sg n A Z) false (m (49 + 4 * (ng - 1) + 1)) (m f) (m p) 0).2 = none → ∀ T' L' bo' bs' be' m', cm_M 64 89 T' L' m' → (∀ s, s < 81 → m' s = m s) → post (-7) (nI n, yq, nI ng, nI k, T', L', K, bo', bs', be', fa, fr, fe, hr, ft, hyA, vl, ee, wb))
    (hO : hyv = true → (tm_R (tm_sg n A Z) false (m (49 + 4 * (ng - 1))) (m f) (m p) 0).1 + (tm_R (tm_sg n A Z) false (m (49 + 4 * (ng - 1) + 1)) (m f) (m p) 0).1 ≠ 0 → ∀ u v T' L' bo' bs' be' m', tm_N (tm_sg n A Z) R (tm_R (tm_sg n A Z) false (m (49 + 4 * (ng - 1))) (m f) (m p) 0).2 = some u → tm_N (tm_sg n A Z) R (tm_R (tm_sg n A Z) false (m (49 + 4 * (ng - 1) + 1)) (m f) (m p) 0).2 = some v → cm_M 64 89 T' L' m' → m' (49 + 4 * (ng - 1)) = u → m' (49 + 4 * (ng - 1) + 1) = v → (∀ s, s < 81 → s ≠ 49 + 4 * (ng - 1) → s ≠ 49 + 4 * (ng - 1) + 1 → m' s = m s) →
      (u ≠ v → post (nI ng) (nI n, yq, nI ng, nI k, T', L', K, bo', bs', be', fa, fr, fe, hr, ft, hyA, vl, ee, wb)) ∧ (u = v → ng = 1 → post 0 (nI n, yq, 0, -1, T', L', K, bo', bs', be', fa, fr, fe, hr, upd ft k 3, hyA, vl, ee, wb)) ∧ (u = v → 1 < ng → post (nI (ng - 1)) (nI n, yq, nI (ng - 1), nI k, T', L', K, bo', bs', be', fa, fr, fe, hr, ft, hyA, vl, ee, wb))) : wY_useHyp_22 post x1 (nI n) yq (nI ng) (nI k) T L K bo bs be fa fr fe hr ft hyA vl ee wb := by
  unfold wY_useHyp_22
  refine yp_top hg0 ?_
  rw [xi_m1 hg0, nI_clamp (n := ng - 1) (by omega), hh]
  refine ⟨vp_in_nI (by omega) (by omega), ?_⟩
  cases hyv with
  | false => exact br_t rfl (hNH rfl)
  | true =>
    refine br_f (by decide) ?_
    have ef : nI (49 + 4 * (ng - 1)) + 2 + x1 = nI f := by
      rw [show nI (49 + 4 * (ng - 1)) + 2 = nI (49 + 4 * (ng - 1) + 2) from nI_add _ 2]
      rcases hfp with ⟨rfl, rfl, rfl⟩ | ⟨rfl, rfl, rfl⟩
      · exact nI_add _ 0
      · exact nI_1 _
    have ep : nI (49 + 4 * (ng - 1)) + 3 - x1 = nI p := by
      rw [show nI (49 + 4 * (ng - 1)) + 3 = nI (49 + 4 * (ng - 1) + 3) from nI_add _ 3]
      rcases hfp with ⟨rfl, rfl, rfl⟩ | ⟨rfl, rfl, rfl⟩
      · exact pk_sub (b := 0) (by omega)
      · exact pk_sub (b := 1) (by omega)
    rw [ef, ep]
    obtain ⟨sf, pf, pp, fp⟩ := hyt rfl
    exact yp_fin (pat := false) hS hg hRU hH hM hRm hk hg0 hg8 w1 w2 wl1 wl2 (by omega) (by omega) pf pp fp (Or.inr ⟨rfl, by decide⟩) (Or.inl rfl) (hN rfl) (hL rfl) (hO rfl)
set_option maxHeartbeats 200000 in
theorem yl_99 {post : Int32 → SY → Prop} {f p : Nat} (hM : cm_M 64 89 T L m) (hf : f < 89) (hp : p < 89) (hend : (∀ v, v < 16 → tm_vc v ∈ m p → tm_vc v ∈ m f) → wpY_finish (fun r u => post r u) (yn, yq, yg, ya, T, L, K, bo, bs, be, fa, fr, fe, hr, ft, hyA, vl, ee, wb) (nI f) (nI p) 0) (hF : ¬ (∀ v, v < 16 → tm_vc v ∈ m p → tm_vc v ∈ m f) → post (-2) (yn, yq, yg, ya, T, L, K, bo, bs, be, fa, fr, fe, hr, ft, hyA, vl, ee, wb)) :
    ∀ c i, (m p).length - i < c → i ≤ (m p).length → (∀ j, j < i → ∀ v, tm_vn (tm_at (m p) j) = some v → tm_at (m p) j ∈ m f) → wY_useLemma_99 post (nI f) (nI p) yn yq yg ya T L K bo bs be fa fr fe hr ft hyA vl ee wb c (nI i) := by
  have hle := cm_le hM hp
  intro c
  induction c with
  | zero => intro i a; omega
  | succ c ih =>
    intro i a b hj
    rw [wY_useLemma_99]
    dsimp only
    rw [nI_clamp (n := p) (by omega), cm_len hM hp]
    refine ⟨vp_in_nI hp (by omega), pk_le (m p).length i (fun hge => ?_) (fun hlt => ?_)⟩
    · refine hend (fun v hv hm => ?_)
      obtain ⟨j, hj1, hj2⟩ := tm_mem_at hm
      have := hj j (by omega) v (by rw [hj2]; exact tm_vn_vc hv)
      rw [hj2] at this
      exact this
    · have hbb := cm_b hM hp i
      have hnext : (∀ v, tm_vn (tm_at (m p) i) = some v → tm_at (m p) i ∈ m f) → wY_useLemma_99 post (nI f) (nI p) yn yq yg ya T L K bo bs be fa fr fe hr ft hyA vl ee wb c (nI i + 1) := by
        intro h
        rw [nI_1]
        refine ih (i + 1) (by omega) (by omega) (fun j hj2 => ?_)
        by_cases e : j = i
        · rw [e]; exact h
        · exact hj j (by omega)
      refine yp_c hM hp (by omega) ?_
      refine yp_vnum (by omega) (fun v hv hv16 => br_f (nI_pos (by omega)) ?_) (fun hv => br_t (by decide) (nm_e (hnext (fun v z => by rw [hv] at z; cases z))))
      refine yp_occ hM hf (by omega) (fun z => br_f (by decide) (nm_e (hnext (fun _ _ => z)))) (fun z => br_t rfl (hF (fun y => z ?_)))
      have hc := (tm_vn_ch hv).1
      rw [hc]
      apply y v hv16
      rw [← hc]
      exact tm_at_mem hlt
set_option maxHeartbeats 200000 in
theorem yp_useLem {post : Int32 → SY → Prop} {k s1 s2 sf kk f p : Nat} {x2 : Int32} (hS : tm_SG n A Z) (hg : sg_Y n A Z fa fr fe) (hRU : tm_RU (tm_sg n A Z) R) (hH : yr_H R hr) (hM : cm_M 64 89 T L m) (hRm : ∀ i, i < 32 → m (1 + i) = R i) (hk : k < 8) (hg0 : 1 ≤ ng) (hg8 : ng ≤ 8) (w1 : tm_P (tm_sg n A Z) [s1] (m (49 + 4 * (ng - 1))) ∧ tm_FC R (m (49 + 4 * (ng - 1)))) (w2 : tm_P (tm_sg n A Z) [s2] (m (49 + 4 * (ng - 1) + 1)) ∧ tm_FC R (m (49 + 4 * (ng - 1) + 1))) (wl1 : (m (49 + 4 * (ng - 1))).length ≤ 48) (wl2 : (m (49 + 4 * (ng - 1) + 1)).length ≤ 48) (hkk : kk < 8) (pf : tm_P (tm_sg n A Z) [sf] (m f)) (pp : tm_P (tm_sg n A Z) [sf] (m p)) (fp : tm_FC R (m p)) (hfp : (f = 33 + 2 * kk ∧ p = 33 + 2 * kk + 1 ∧ x2 = 0) ∨ (f = 33 + 2 * kk + 1 ∧ p = 33 + 2 * kk ∧ x2 = 1))
    (hF : ((m f).length = 1 ∧ tm_vn (tm_at (m f) 0) ≠ none) ∨ ¬ (∀ v, v < 16 → tm_vc v ∈ m p → tm_vc v ∈ m f) → post (-2) (nI n, yq, nI ng, nI k, T, L, K, bo, bs, be, fa, fr, fe, hr, ft, hyA, vl, ee, wb))
    (hN : ¬ ((m f).length = 1 ∧ tm_vn (tm_at (m f) 0) ≠ none) → (∀ v, v < 16 → tm_vc v ∈ m p → tm_vc v ∈ m f) → (tm_R (tm_sg n A Z) true (m (49 + 4 * (ng - 1))) (m f) (m p) 0).1 + (tm_R (tm_sg n A Z) true (m (49 + 4 * (ng - 1) + 1)) (m f) (m p) 0).1 = 0 → ∀ T' L' bo' bs' be' m', cm_M 64 89 T' L' m' → (∀ s, s < 81 → m' s = m s) → post (-8) (nI n, yq, nI ng, nI k, T', L', K, bo', bs', be', fa, fr, fe, hr, ft, hyA, vl, ee, wb))
    (hL : ¬ ((m f).length = 1 ∧ tm_vn (tm_at (m f) 0) ≠ none) → (∀ v, v < 16 → tm_vc v ∈ m p → tm_vc v ∈ m f) → (tm_R (tm_sg n A Z) true (m (49 + 4 * (ng - 1))) (m f) (m p) 0).1 + (tm_R (tm_sg n A Z) true (m (49 + 4 * (ng - 1) + 1)) (m f) (m p) 0).1 ≠ 0 → tm_N (tm_sg n A Z) R (tm_R (tm_sg n A Z) true (m (49 + 4 * (ng - 1))) (m f) (m p) 0).2 = none ∨ tm_N (tm_sg n A Z) R (tm_R (tm_sg n A Z) true (m (49 + 4 * (ng - 1) + 1)) (m f) (m p) 0).2 = none → ∀ T' L' bo' bs' be' m', cm_M 64 89 T' L' m' → (∀ s, s < 81 → m' s = m s) → post (-7) (nI n, yq, nI ng, nI k, T', L', K, bo', bs', be', fa, fr, fe, hr, ft, hyA, vl, ee, wb))
    (hO : ¬ ((m f).length = 1 ∧ tm_vn (tm_at (m f) 0) ≠ none) → (∀ v, v < 16 → tm_vc v ∈ m p → tm_vc v ∈ m f) → (tm_R (tm_sg n A Z) true (m (49 + 4 * (ng - 1))) (m f) (m p) 0).1 + (tm_R (tm_sg n A Z) true (m (49 + 4 * (ng - 1) + 1)) (m f) (m p) 0).1 ≠ 0 → ∀ u v T' L' bo' bs' be' m', tm_N (tm_sg n A Z) R (tm_R (tm_sg n A Z) true (m (49 + 4 * (ng - 1))) (m f) (m p) 0).2 = some u → tm_N (tm_sg n A Z) R (tm_R (tm_sg n A Z) true (m (49 + 4 * (ng - 1) + 1)) (m f) (m p) 0).2 = some v → cm_M 64 89 T' L' m' → m' (49 + 4 * (ng - 1)) = u → m' (49 + 4 * (ng - 1) + 1) = v → (∀ s, s < 81 → s ≠ 49 + 4 * (ng - 1) → s ≠ 49 + 4 * (ng - 1) + 1 → m' s = m s) →
      (u ≠ v → post (nI ng) (nI n, yq, nI ng, nI k, T', L', K, bo', bs', be', fa, fr, fe, hr, ft, hyA, vl, ee, wb)) ∧ (u = v → ng = 1 → post 0 (nI n, yq, 0, -1, T', L', K, bo', bs', be', fa, fr, fe, hr, upd ft k 3, hyA, vl, ee, wb)) ∧ (u = v → 1 < ng → post (nI (ng - 1)) (nI n, yq, nI (ng - 1), nI k, T', L', K, bo', bs', be', fa, fr, fe, hr, ft, hyA, vl, ee, wb))) : wY_useLemma_45 post (nI kk) x2 (nI n) yq (nI ng) (nI k) T L K bo bs be fa fr fe hr ft hyA vl ee wb := by
  unfold wY_useLemma_45
  rw [show (2 : Int32) * nI kk = nI (2 * kk) from pk_mul 2 kk, show (33 : Int32) + nI (2 * kk) = nI (33 + 2 * kk) from nI_add 33 _]
  have ef : nI (33 + 2 * kk) + x2 = nI f := by
    rcases hfp with ⟨rfl, rfl, rfl⟩ | ⟨rfl, rfl, rfl⟩
    · exact nI_add _ 0
    · exact nI_1 _
  have ep : nI (33 + 2 * kk) + 1 - x2 = nI p := by
    rw [nI_1]
    rcases hfp with ⟨rfl, rfl, rfl⟩ | ⟨rfl, rfl, rfl⟩
    · exact pk_sub (b := 0) (by omega)
    · exact pk_sub (b := 1) (by omega)
  refine nm_r ef (nm_r ep ?_)
  have hf : f < 81 := by omega
  have hp : p < 81 := by omega
  have hle := cm_le hM (show f < 89 by omega)
  have hbb := cm_b hM (show f < 89 by omega) 0
  refine yp_c (i := 0) hM (by omega) (by omega) ?_
  rw [nI_clamp (n := f) (by omega), cm_len hM (show f < 89 by omega)]
  have hgo : ¬ ((m f).length = 1 ∧ tm_vn (tm_at (m f) 0) ≠ none) → ∃ c, wY_useLemma_99 post (nI f) (nI p) (nI n) yq (nI ng) (nI k) T L K bo bs be fa fr fe hr ft hyA vl ee wb c 0 := by
    intro hns
    refine ⟨(m p).length + 1, yl_99 hM (by omega) (by omega) (fun hsub => ?_) (fun z => hF (Or.inr z)) _ 0 (by omega) (Nat.zero_le _) (fun j hj => absurd hj (Nat.not_lt_zero _))⟩
    exact yp_fin (pat := true) hS hg hRU hH hM hRm hk hg0 hg8 w1 w2 wl1 wl2 hf hp pf pp fp (Or.inl ⟨rfl, rfl⟩) (Or.inr hns) (hN hns hsub) (hL hns hsub) (hO hns hsub)
  refine ⟨vp_in_nI (by omega) (by omega), pk_eq (m f).length 1 (fun e => ?_) (fun e => hgo (fun z => e z.1))⟩
  exact yp_vnum (by omega) (fun v hv hv16 => br_f (nI_pos (by omega)) (hF (Or.inl ⟨e, by rw [hv]; exact Option.some_ne_none v⟩))) (fun hv => br_t (by decide) (hgo (fun z => z.2 hv)))
end YF
