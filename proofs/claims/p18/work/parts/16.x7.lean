/-! 16: the class: useHyp, useLemma, generalize -/
theorem tm_R_cto {g : tm_G} {pat : Bool} {w fr to to' : List Nat} : ∀ d i, w.length - i ≤ d → (tm_R g pat w fr to i).1 = (tm_R g pat w fr to' i).1 := by
  intro d
  induction d with
  | zero =>
    intro i h
    rw [tm_R_out (by omega), tm_R_out (by omega)]
  | succ d ih =>
    intro i h
    by_cases hi : i < w.length
    · have he := tm_e_gt g hi
      cases hm : tm_mt g pat w fr i (fun _ => none) with
      | some r =>
        rw [tm_R_hit hi hm, tm_R_hit hi hm]
        dsimp only
        rw [ih (tm_e g w i) (by omega)]
      | none =>
        rw [tm_R_miss hi hm, tm_R_miss hi hm]
        dsimp only
        rw [ih (i + 1) (by omega)]
    · rw [tm_R_out (by omega), tm_R_out (by omega)]
theorem tm_head {g : tm_G} (hv : tm_V g) {s : Nat} {w : List Nat} (hP : tm_P g [s] w) (hn : ¬ (w.length = 1 ∧ tm_vn (tm_at w 0) ≠ none)) : ∃ c p, w = c :: p ∧ tm_vn c = none := by
  cases w with
  | nil => exact absurd hP (fun z => nomatch (show [s] = [] from z))
  | cons c p =>
    refine ⟨c, p, rfl, ?_⟩
    cases hc : tm_vn c with
    | none => rfl
    | some v =>
      exfalso
      apply hn
      obtain ⟨a, s2, S2, hg, hS, hP2⟩ := hP
      obtain ⟨s3, hg3⟩ := hv c v hc
      rw [hg] at hg3
      obtain ⟨rfl, _⟩ := Prod.mk.inj (Option.some.inj hg3)
      obtain ⟨_, rfl⟩ := List.cons.inj hS
      have := tm_P_len' hP2
      rw [List.append_nil, List.length_nil, tm_en_0] at this
      refine ⟨by rw [List.length_cons, ← this], ?_⟩
      show tm_vn c ≠ none
      rw [hc]
      exact Option.some_ne_none v
theorem iv_Rok {g : tm_G} {R : Nat → List Nat} {pat : Bool} {w fr to : List Nat} {s s2 : Nat} (hv : tm_V g) (hP : tm_P g [s] w) (hF : tm_FC R w) (hf : tm_P g [s2] fr) (ht : tm_P g [s2] to) (hFt : tm_FC R to) (hh : pat = false ∨ ¬ (fr.length = 1 ∧ tm_vn (tm_at fr 0) ≠ none)) : tm_P g [s] (tm_R g pat w fr to 0).2 ∧ tm_FC R (tm_R g pat w fr to 0).2 := by
  constructor
  · rcases hh with hh | hh
    · cases fr with
      | nil => exact absurd hf (fun z => nomatch (show [s2] = [] from z))
      | cons c p => exact tm_R_ty hv hf ht (Or.inl hh) w.length 0 [s] (Nat.sub_le _ _) (by rw [List.drop_zero]; exact hP)
    · obtain ⟨c, p, rfl, hc⟩ := tm_head hv hf hh
      exact tm_R_ty hv hf ht (Or.inr hc) w.length 0 [s] (Nat.sub_le _ _) (by rw [List.drop_zero]; exact hP)
  · intro c hc hcf
    rcases tm_R_mem w.length 0 (Nat.sub_le _ _) hc with h | h
    · exact hFt c h hcf
    · exact hF c h hcf
section XG
variable {xn xq xa xg : Int32} {T L ay gs so E B pv vl el : Nat → Int32} {m : Nat → List Nat} {n q ng : Nat} {A : Nat → List Nat} {Z : Nat → Nat} {hy : Nat → Bool}
theorem xp_fin {post : Int32 → St1 → Prop} {k : Nat} {m0 : Nat → List Nat} {l r : List Nat} (hk : k < 8) (hS : tm_SG n A Z) (hR : tm_RU (tm_sg n A Z) (iv_R m)) (hg : sg_X (tm_sg n A Z) ay gs so) (hM : mm_M 49 86 T L m0) (hg0 : 1 ≤ ng) (hg8 : ng ≤ 8) (e1 : m0 81 = l.take 49) (e2 : m0 82 = r.take 49) (hfr : ∀ s, s ≠ 81 → s ≠ 82 → m0 s = m s) {s1 s2 : Nat} (w1 : tm_P (tm_sg n A Z) [s1] l ∧ tm_FC (iv_R m) l) (w2 : tm_P (tm_sg n A Z) [s2] r ∧ tm_FC (iv_R m) r)
    (hL : tm_N (tm_sg n A Z) (iv_R m) l = none ∨ tm_N (tm_sg n A Z) (iv_R m) r = none → ∀ T' L' E' B' m', mm_M 49 86 T' L' m' → (∀ s, s < 81 → m' s = m s) → post (-7) (xn, xq, nI k, nI ng, T', L', ay, gs, so, E', B', pv, vl, el))
    (hO : ∀ u v T' L' E' B' m', tm_N (tm_sg n A Z) (iv_R m) l = some u → tm_N (tm_sg n A Z) (iv_R m) r = some v → mm_M 49 86 T' L' m' → m' (49 + 4 * (ng - 1)) = u → m' (49 + 4 * (ng - 1) + 1) = v → (∀ s, s < 81 → s ≠ 49 + 4 * (ng - 1) → s ≠ 49 + 4 * (ng - 1) + 1 → m' s = m s) →
      (u ≠ v → post (nI ng) (xn, xq, nI k, nI ng, T', L', ay, gs, so, E', B', pv, vl, el)) ∧ (u = v → ng = 1 → post 0 (xn, xq, -1, 0, T', L', ay, gs, so, E', B', upd pv k 1, vl, el)) ∧ (u = v → 1 < ng → post (nI (ng - 1)) (xn, xq, nI k, nI (ng - 1), T', L', ay, gs, so, E', B', pv, vl, el))) : wpX_settleTopGoal post (xn, xq, nI k, nI ng, T, L, ay, gs, so, E, B, pv, vl, el) := by
  have hR1 : ∀ i, i < 32 → iv_R m0 i = iv_R m i := fun i hi => hfr _ (by omega) (by omega)
  refine xp_settle (S1 := [s1]) (S2 := [s2]) hk hS (iv_RU_mono (fun _ _ h => h) hR1 hR) hg hM hg0 hg8 ?_ ?_ ?_ ?_
  · rw [e1]
    intro hl
    rw [List.length_take] at hl
    rw [mm_tl (by omega)]
    exact ⟨w1.1, iv_FC_ext (iv_eqne hR1) w1.2⟩
  · rw [e2]
    intro hl
    rw [List.length_take] at hl
    rw [mm_tl (by omega)]
    exact ⟨w2.1, iv_FC_ext (iv_eqne hR1) w2.2⟩
  · rw [e1, e2, tm_N_ext hR1, tm_N_ext hR1, tm_N_take, tm_N_take]
    intro h T' L' E' B' m' hM' hf'
    exact hL h T' L' E' B' m' hM' (fun s hs => by rw [hf' s hs, hfr s (by omega) (by omega)])
  · rw [e1, e2, tm_N_ext hR1, tm_N_ext hR1, tm_N_take, tm_N_take]
    intro u v T' L' E' B' m' hu hv hM' h1 h2 hf'
    exact hO u v T' L' E' B' m' hu hv hM' h1 h2 (fun s hs a b => by rw [hf' s hs a b, hfr s (by omega) (by omega)])
theorem xp_useHyp {post : Int32 → St1 → Prop} {k f p : Nat} {x1 : Int32} (hk : k < 8) (hW : iv_W n A Z q ng hy m) (hg : sg_X (tm_sg n A Z) ay gs so) (hM : mm_M 49 86 T L m) (hg0 : 1 ≤ ng) (hfp : (f = 49 + 4 * (ng - 1) + 2 ∧ p = 49 + 4 * (ng - 1) + 3 ∧ x1 = 0) ∨ (f = 49 + 4 * (ng - 1) + 3 ∧ p = 49 + 4 * (ng - 1) + 2 ∧ x1 = 1))
    (hH : hy (ng - 1) = false → post (-5) (xn, xq, nI k, nI ng, T, L, ay, gs, so, E, B, pv, vl, el))
    (hN : hy (ng - 1) = true → (tm_R (tm_sg n A Z) false (m (49 + 4 * (ng - 1))) (m f) (m p) 0).1 + (tm_R (tm_sg n A Z) false (m (49 + 4 * (ng - 1) + 1)) (m f) (m p) 0).1 = 0 → ∀ T' L' E' B' m', mm_M 49 86 T' L' m' → (∀ s, s < 81 → m' s = m s) → post (-8) (xn, xq, nI k, nI ng, T', L', ay, gs, so, E', B', pv, vl, el))
    (hL : hy (ng - 1) = true → (tm_R (tm_sg n A Z) false (m (49 + 4 * (ng - 1))) (m f) (m p) 0).1 + (tm_R (tm_sg n A Z) false (m (49 + 4 * (ng - 1) + 1)) (m f) (m p) 0).1 ≠ 0 → tm_N (tm_sg n A Z) (iv_R m) (tm_R (tm_sg n A Z) false (m (49 + 4 * (ng - 1))) (m f) (m p) 0).2 = none ∨ tm_N (tm_sg n A Z) (iv_R m) (tm_R (tm_sg n A Z) false (m (49 + 4 * (ng - 1) + 1)) (m f) (m p) 0).2 = none → ∀ T' L' E' B' m', mm_M 49 86 T' L' m' → (∀ s, s < 81 → m' s = m s) → post (-7) (xn, xq, nI k, nI ng, T', L', ay, gs, so, E', B', pv, vl, el))
    (hO : hy (ng - 1) = true → (tm_R (tm_sg n A Z) false (m (49 + 4 * (ng - 1))) (m f) (m p) 0).1 + (tm_R (tm_sg n A Z) false (m (49 + 4 * (ng - 1) + 1)) (m f) (m p) 0).1 ≠ 0 → ∀ u v T' L' E' B' m', tm_N (tm_sg n A Z) (iv_R m) (tm_R (tm_sg n A Z) false (m (49 + 4 * (ng - 1))) (m f) (m p) 0).2 = some u → tm_N (tm_sg n A Z) (iv_R m) (tm_R (tm_sg n A Z) false (m (49 + 4 * (ng - 1) + 1)) (m f) (m p) 0).2 = some v → mm_M 49 86 T' L' m' → m' (49 + 4 * (ng - 1)) = u → m' (49 + 4 * (ng - 1) + 1) = v → (∀ s, s < 81 → s ≠ 49 + 4 * (ng - 1) → s ≠ 49 + 4 * (ng - 1) + 1 → m' s = m s) →
      (u ≠ v → post (nI ng) (xn, xq, nI k, nI ng, T', L', ay, gs, so, E', B', pv, vl, el)) ∧ (u = v → ng = 1 → post 0 (xn, xq, -1, 0, T', L', ay, gs, so, E', B', upd pv k 1, vl, el)) ∧ (u = v → 1 < ng → post (nI (ng - 1)) (xn, xq, nI k, nI (ng - 1), T', L', ay, gs, so, E', B', pv, vl, el))) : wX_useHyp_22 post x1 xn xq (nI k) (nI ng) T L ay gs so E B pv vl el := by
  unfold wX_useHyp_22
  obtain ⟨hS, _, hg8, _, _, hWr, hWg⟩ := hW
  obtain ⟨⟨s, w1, w2, w3, w4, w5, w6⟩, hyt, hyf⟩ := hWg (ng - 1) (by omega)
  refine xp_top hg0 hg8 ?_
  rw [show nI (49 + 4 * (ng - 1)) + 2 = nI (49 + 4 * (ng - 1) + 2) from nI_add _ 2]
  have hs2 : 49 + 4 * (ng - 1) + 2 < 86 := by omega
  have hl2 := mm_le hM hs2
  refine nm_e ⟨vp_in_nI hs2 (by omega), ?_⟩
  rw [nI_clamp (n := 49 + 4 * (ng - 1) + 2) (by omega), mm_len hM hs2]
  cases hyv : hy (ng - 1) with
  | false =>
    rw [(hyf hyv).1]
    exact br_t rfl (hH hyv)
  | true =>
    obtain ⟨sh, v1, v2, v3, v4, v5, v6⟩ := hyt hyv
    have hpos := tm_P_ne v1
    refine br_f (nI_ne0 hpos (by omega)) ?_
    have ef : nI (49 + 4 * (ng - 1) + 2) + x1 = nI f := by
      rcases hfp with ⟨rfl, rfl, rfl⟩ | ⟨rfl, rfl, rfl⟩
      · exact nI_add _ 0
      · exact nI_1 _
    have ep : nI (49 + 4 * (ng - 1) + 2) + 1 - x1 = nI p := by
      rw [nI_1]
      rcases hfp with ⟨rfl, rfl, rfl⟩ | ⟨rfl, rfl, rfl⟩
      · exact pk_sub (b := 0) (by omega)
      · exact pk_sub (b := 1) (by omega)
    rw [ef, ep]
    have hPf : ∃ sf, tm_P (tm_sg n A Z) [sf] (m f) ∧ tm_P (tm_sg n A Z) [sf] (m p) ∧ tm_FC (iv_R m) (m p) := by
      rcases hfp with ⟨rfl, rfl, _⟩ | ⟨rfl, rfl, _⟩
      · exact ⟨sh, v1, v2, v4⟩
      · exact ⟨sh, v2, v1, v3⟩
    obtain ⟨sf, q1, q2, q3⟩ := hPf
    have hV := (tm_sg_GS hS).1
    refine xp_replS (pat := false) hS hg hM hg0 hg8 (by omega) (by omega) (by omega) (by omega) (by omega) (by omega) (Or.inr ⟨rfl, rfl⟩) (fun T1 L1 E1 B1 m1 hM1 a1 a2 a3 => ?_)
    have c1 := tm_R_cnt (g := tm_sg n A Z) (pat := false) (w := m (49 + 4 * (ng - 1))) (fr := m f) (to := m p) _ 0 (Nat.le_refl _)
    have c2 := tm_R_cnt (g := tm_sg n A Z) (pat := false) (w := m (49 + 4 * (ng - 1) + 1)) (fr := m f) (to := m p) _ 0 (Nat.le_refl _)
    refine pk_eq ((tm_R (tm_sg n A Z) false (m (49 + 4 * (ng - 1))) (m f) (m p) 0).1 + (tm_R (tm_sg n A Z) false (m (49 + 4 * (ng - 1) + 1)) (m f) (m p) 0).1) 0 (fun z => hN hyv z T1 L1 E1 B1 m1 hM1 (fun s hs => a3 s (by omega) (by omega))) (fun z => ?_)
    exact xp_fin hk hS hWr.1 hg hM1 hg0 hg8 a1 a2 a3 (iv_Rok hV w1 w3 q1 q2 q3 (Or.inl rfl)) (iv_Rok hV w2 w4 q1 q2 q3 (Or.inl rfl)) (hL hyv z) (hO hyv z)
theorem xp_useLem {post : Int32 → St1 → Prop} {k kk f p : Nat} {x2 : Int32} (hk : k < 8) (hW : iv_W n A Z q ng hy m) (hg : sg_X (tm_sg n A Z) ay gs so) (hM : mm_M 49 86 T L m) (hg0 : 1 ≤ ng) (hkk : kk < q) (hfp : (f = 1 + 2 * kk ∧ p = 1 + 2 * kk + 1 ∧ x2 = 0) ∨ (f = 1 + 2 * kk + 1 ∧ p = 1 + 2 * kk ∧ x2 = 1))
    (hF : ((m f).length = 1 ∧ tm_vn (tm_at (m f) 0) ≠ none) ∨ ¬ (∀ v, v < 16 → tm_vc v ∈ m p → tm_vc v ∈ m f) → post (-2) (xn, xq, nI k, nI ng, T, L, ay, gs, so, E, B, pv, vl, el))
    (hN : ¬ ((m f).length = 1 ∧ tm_vn (tm_at (m f) 0) ≠ none) → (∀ v, v < 16 → tm_vc v ∈ m p → tm_vc v ∈ m f) → (tm_R (tm_sg n A Z) true (m (49 + 4 * (ng - 1))) (m f) (m p) 0).1 + (tm_R (tm_sg n A Z) true (m (49 + 4 * (ng - 1) + 1)) (m f) (m p) 0).1 = 0 → ∀ T' L' E' B' m', mm_M 49 86 T' L' m' → (∀ s, s < 81 → m' s = m s) → post (-8) (xn, xq, nI k, nI ng, T', L', ay, gs, so, E', B', pv, vl, el))
    (hL : ¬ ((m f).length = 1 ∧ tm_vn (tm_at (m f) 0) ≠ none) → (∀ v, v < 16 → tm_vc v ∈ m p → tm_vc v ∈ m f) → (tm_R (tm_sg n A Z) true (m (49 + 4 * (ng - 1))) (m f) (m p) 0).1 + (tm_R (tm_sg n A Z) true (m (49 + 4 * (ng - 1) + 1)) (m f) (m p) 0).1 ≠ 0 → tm_N (tm_sg n A Z) (iv_R m) (tm_R (tm_sg n A Z) true (m (49 + 4 * (ng - 1))) (m f) (m p) 0).2 = none ∨ tm_N (tm_sg n A Z) (iv_R m) (tm_R (tm_sg n A Z) true (m (49 + 4 * (ng - 1) + 1)) (m f) (m p) 0).2 = none → ∀ T' L' E' B' m', mm_M 49 86 T' L' m' → (∀ s, s < 81 → m' s = m s) → post (-7) (xn, xq, nI k, nI ng, T', L', ay, gs, so, E', B', pv, vl, el))
    (hO : ¬ ((m f).length = 1 ∧ tm_vn (tm_at (m f) 0) ≠ none) → (∀ v, v < 16 → tm_vc v ∈ m p → tm_vc v ∈ m f) → (tm_R (tm_sg n A Z) true (m (49 + 4 * (ng - 1))) (m f) (m p) 0).1 + (tm_R (tm_sg n A Z) true (m (49 + 4 * (ng - 1) + 1)) (m f) (m p) 0).1 ≠ 0 → ∀ u v T' L' E' B' m', tm_N (tm_sg n A Z) (iv_R m) (tm_R (tm_sg n A Z) true (m (49 + 4 * (ng - 1))) (m f) (m p) 0).2 = some u → tm_N (tm_sg n A Z) (iv_R m) (tm_R (tm_sg n A Z) true (m (49 + 4 * (ng - 1) + 1)) (m f) (m p) 0).2 = some v → mm_M 49 86 T' L' m' → m' (49 + 4 * (ng - 1)) = u → m' (49 + 4 * (ng - 1) + 1) = v → (∀ s, s < 81 → s ≠ 49 + 4 * (ng - 1) → s ≠ 49 + 4 * (ng - 1) + 1 → m' s = m s) →
      (u ≠ v → post (nI ng) (xn, xq, nI k, nI ng, T', L', ay, gs, so, E', B', pv, vl, el)) ∧ (u = v → ng = 1 → post 0 (xn, xq, -1, 0, T', L', ay, gs, so, E', B', upd pv k 1, vl, el)) ∧ (u = v → 1 < ng → post (nI (ng - 1)) (xn, xq, nI k, nI (ng - 1), T', L', ay, gs, so, E', B', pv, vl, el))) : wX_useLemma_44 post (nI kk) x2 xn xq (nI k) (nI ng) T L ay gs so E B pv vl el := by
  unfold wX_useLemma_44
  obtain ⟨hS, hq8, hg8, _, hWf, hWr, hWg⟩ := hW
  obtain ⟨⟨s, w1, w2, w3, w4, w5, w6⟩, hyt, hyf⟩ := hWg (ng - 1) (by omega)
  obtain ⟨sh, v1, v2, v3, v4, v5, v6⟩ := hWf.1 kk hkk
  have hV := (tm_sg_GS hS).1
  rw [show (1 : Int32) + 2 * nI kk = nI (1 + 2 * kk) from by rw [show (2 : Int32) * nI kk = nI (2 * kk) from pk_mul 2 kk]; exact nI_add 1 _]
  have ef : nI (1 + 2 * kk) + x2 = nI f := by
    rcases hfp with ⟨rfl, rfl, rfl⟩ | ⟨rfl, rfl, rfl⟩
    · exact nI_add _ 0
    · exact nI_1 _
  have ep : nI (1 + 2 * kk) + 1 - x2 = nI p := by
    rw [nI_1]
    rcases hfp with ⟨rfl, rfl, rfl⟩ | ⟨rfl, rfl, rfl⟩
    · exact pk_sub (b := 0) (by omega)
    · exact pk_sub (b := 1) (by omega)
  have hPf : ∃ sf, tm_P (tm_sg n A Z) [sf] (m f) ∧ tm_P (tm_sg n A Z) [sf] (m p) ∧ tm_FC (iv_R m) (m p) := by
    rcases hfp with ⟨rfl, rfl, _⟩ | ⟨rfl, rfl, _⟩
    · exact ⟨sh, v1, v2, v4⟩
    · exact ⟨sh, v2, v1, v3⟩
  obtain ⟨sf, q1, q2, q3⟩ := hPf
  refine nm_e (nm_r ef (nm_r ep ?_))
  refine xp_varsOf hM (by omega) (fun k1 s1 => ?_)
  refine xp_varsOf hM (by omega) (fun k2 s2 => ?_)
  have hd := vz_diff s1 s2
  refine nm_e ?_
  refine xp_single hM (by omega) (fun z1 z2 => br_f (by decide) (hF (Or.inl ⟨z1, z2⟩))) (fun hns => br_t rfl ?_)
  by_cases hsub : ∀ v, v < 16 → tm_vc v ∈ m p → tm_vc v ∈ m f
  · refine br_t (hd.mpr hsub) ?_
    refine xp_replS (pat := true) hS hg hM hg0 hg8 (by omega) (by omega) (by omega) (by omega) (by omega) (by omega) (Or.inl ⟨rfl, by decide⟩) (fun T1 L1 E1 B1 m1 hM1 a1 a2 a3 => ?_)
    have c1 := tm_R_cnt (g := tm_sg n A Z) (pat := true) (w := m (49 + 4 * (ng - 1))) (fr := m f) (to := m p) _ 0 (Nat.le_refl _)
    have c2 := tm_R_cnt (g := tm_sg n A Z) (pat := true) (w := m (49 + 4 * (ng - 1) + 1)) (fr := m f) (to := m p) _ 0 (Nat.le_refl _)
    refine pk_eq ((tm_R (tm_sg n A Z) true (m (49 + 4 * (ng - 1))) (m f) (m p) 0).1 + (tm_R (tm_sg n A Z) true (m (49 + 4 * (ng - 1) + 1)) (m f) (m p) 0).1) 0 (fun z => hN hns hsub z T1 L1 E1 B1 m1 hM1 (fun s hs => a3 s (by omega) (by omega))) (fun z => ?_)
    exact xp_fin hk hS hWr.1 hg hM1 hg0 hg8 a1 a2 a3 (iv_Rok hV w1 w3 q1 q2 q3 (Or.inr hns)) (iv_Rok hV w2 w4 q1 q2 q3 (Or.inr hns)) (hL hns hsub z) (hO hns hsub z)
  · exact br_f (fun z => hsub (hd.mp z)) (hF (Or.inr hsub))
end XG
