/-! 18: the class: induct, evaluate -/
section XI
variable {xn xq xa xg : Int32} {T L ay gs so E B pv vl el : Nat → Int32} {m : Nat → List Nat} {n q ng : Nat} {A : Nat → List Nat} {Z : Nat → Nat} {hy : Nat → Bool}
theorem xp_step {post : St1 → Prop} (hM : mm_M 49 86 T L m) {v : Nat} {hx : Int32} {hh : Nat} (hv : v < 16) (hhx : 8 ≤ v → hx = nI hh ∧ hh < 16) (h : ∀ T' L', mm_M 49 86 T' L' (mm_set (mm_set m 84 [tm_vc v]) 85 (tm_to v hh)) → post (xn, xq, xa, xg, T', L', ay, gs, so, E, B, pv, vl, el)) : wpX_writeStepTerm post (xn, xq, xa, xg, T, L, ay, gs, so, E, B, pv, vl, el) (nI v) hx := by
  unfold wpX_writeStepTerm wX_writeStepTerm_67
  dsimp only
  have hc := tm_vc_lt hv
  refine xp_letter hv (nm_e ?_)
  refine xp_append (s := 84) (mm_nil hM (s := 84) (by omega)) (by omega) hc (fun T1 L1 hM1 => ?_)
  rw [mm_set_s, mm_set_set, List.nil_append, mm_tl (K := 49) (by rw [List.length_singleton]; omega)] at hM1
  have hM2 := mm_nil hM1 (s := 85) (by omega)
  refine nm_e (pk_le 8 v (fun h8 => ?_) (fun h8 => ?_))
  · obtain ⟨rfl, hh16⟩ := hhx h8
    refine xp_letter hh16 ?_
    refine xp_append (s := 85) (c := 67) hM2 (by omega) (by omega) (fun T3 L3 hM3 => ?_)
    rw [mm_set_s, mm_set_set] at hM3
    refine xp_append (s := 85) hM3 (by omega) (tm_vc_lt hh16) (fun T4 L4 hM4 => ?_)
    rw [mm_set_s, mm_set_set, mm_tt] at hM4
    refine xp_append (s := 85) hM4 (by omega) hc (fun T5 L5 hM5 => ?_)
    rw [mm_set_s, mm_set_set, mm_tt] at hM5
    apply h
    unfold tm_to
    rw [if_neg (by omega)]
    exact hM5
  · refine xp_append (s := 85) (c := 83) hM2 (by omega) (by omega) (fun T3 L3 hM3 => ?_)
    rw [mm_set_s, mm_set_set] at hM3
    refine xp_append (s := 85) hM3 (by omega) hc (fun T5 L5 hM5 => ?_)
    rw [mm_set_s, mm_set_set, mm_tt] at hM5
    apply h
    unfold tm_to
    rw [if_pos h8]
    exact hM5
theorem xp_push33 {post : St1 → Prop} {c s0 : Nat} (hS : tm_SG n A Z) (hg : sg_X (tm_sg n A Z) ay gs so) (hM : mm_M 49 86 T L m) (hg0 : 1 ≤ ng) (hg8 : ng < 8) (hs0 : s0 = 49 + 4 * (ng - 1)) (hc : c < 256) (h85 : m 85 = []) (hl : (m s0).length ≤ 48) (hr : (m (s0 + 1)).length ≤ 48) (h81 : (m 81).length ≤ 48) (h82 : (m 82).length ≤ 48)
    (h : ∀ T' L' E' B' m', mm_M 49 86 T' L' m' → m' s0 = m 81 → m' (s0 + 1) = m 82 → m' (s0 + 2) = m s0 → m' (s0 + 3) = m (s0 + 1) → m' (s0 + 4) = (tm_R (tm_sg n A Z) false (m s0) (m 84) [c] 0).2 → m' (s0 + 5) = (tm_R (tm_sg n A Z) false (m (s0 + 1)) (m 84) [c] 0).2 → m' (s0 + 6) = [] → m' (s0 + 7) = [] → (∀ s, s < 81 → s < s0 ∨ s0 + 7 < s → m' s = m s) → post (xn, xq, xa, nI (ng + 1), T', L', ay, gs, so, E', B', pv, vl, el)) : wX_pushStepAndBase_33 post (nI s0) (nI (s0 + 4)) (nI c) (nI 85) xn xq xa (nI ng) T L ay gs so E B pv vl el := by
  unfold wX_pushStepAndBase_33
  have hb : s0 + 7 < 81 := by omega
  have hb0 : 49 ≤ s0 := by omega
  clear hs0
  refine xp_append (s := 85) hM (by omega) hc (fun T1 L1 hM1 => ?_)
  rw [h85, List.nil_append, mm_tl (K := 49) (by rw [List.length_singleton]; omega)] at hM1
  have j84 : mm_set m 85 [c] 84 = m 84 := mm_set_n (by omega)
  have j85 : mm_set m 85 [c] 85 = [c] := mm_set_s
  have jf : ∀ s, s ≠ 85 → mm_set m 85 [c] s = m s := fun s a => mm_set_n a
  have l1 := tm_R_len1 (g := tm_sg n A Z) (w := m s0) (fr := m 84) (to := [c]) rfl _ 0 (Nat.le_refl _)
  have l2 := tm_R_len1 (g := tm_sg n A Z) (w := m (s0 + 1)) (fr := m 84) (to := [c]) rfl _ 0 (Nat.le_refl _)
  refine xp_repl (t := s0 + 4) (f := 84) (p := 85) (pat := false) hg (tm_ar_lt hS) hM1 (by omega) (by omega) (by omega) (by omega) (by omega) (by omega) (by omega) (Or.inr ⟨rfl, rfl⟩) (fun T2 L2 E2 B2 hM2 => ?_)
  rw [j84, j85, jf s0 (by omega), mm_tl (by omega)] at hM2
  rw [nI_1 s0, nI_1 (s0 + 4)]
  refine xp_repl (t := s0 + 4 + 1) (f := 84) (p := 85) (pat := false) hg (tm_ar_lt hS) hM2 (by omega) (by omega) (by omega) (by omega) (by omega) (by omega) (by omega) (Or.inr ⟨rfl, rfl⟩) (fun T3 L3 E3 B3 hM3 => ?_)
  rw [mm_set_n (s := s0 + 4) (j := 84) (by omega), mm_set_n (s := s0 + 4) (j := 85) (by omega), mm_set_n (s := s0 + 4) (j := s0 + 1) (by omega), j84, j85, jf (s0 + 1) (by omega), mm_tl (by omega)] at hM3
  have hM4 := mm_nil (mm_nil hM3 (s := s0 + 4 + 2) (by omega)) (s := s0 + 4 + 3) (by omega)
  dsimp only
  rw [show nI (s0 + 4) + 2 = nI (s0 + 4 + 2) from nI_add _ 2, show nI (s0 + 4) + 3 = nI (s0 + 4 + 3) from nI_add _ 3, nI_clamp (n := s0 + 4 + 2) (by omega), nI_clamp (n := s0 + 4 + 3) (by omega), show nI s0 + 2 = nI (s0 + 2) from nI_add _ 2, show nI s0 + 3 = nI (s0 + 3) from nI_add _ 3]
  refine ⟨vp_in_nI (by omega) (by omega), nm_e ⟨vp_in_nI (by omega) (by omega), nm_e ?_⟩⟩
  refine xp_copyText (s := s0) (t := s0 + 2) hM4 (by omega) (by omega) (by omega) (fun T5 L5 hM5 => ?_)
  refine xp_copyText (s := s0 + 1) (t := s0 + 3) hM5 (by omega) (by omega) (by omega) (fun T6 L6 hM6 => ?_)
  refine xp_copyText (s := 81) (t := s0) hM6 (by omega) (by omega) (by omega) (fun T7 L7 hM7 => ?_)
  refine xp_copyText (s := 82) (t := s0 + 1) hM7 (by omega) (by omega) (by omega) (fun T8 L8 hM8 => ?_)
  refine nm_r (nI_1 ng) (h T8 L8 E3 B3 _ hM8 ?_ ?_ ?_ ?_ ?_ ?_ ?_ ?_ ?_)
  · simp (disch := omega) only [mm_set_s, mm_set_n]
  · simp (disch := omega) only [mm_set_s, mm_set_n]
  · simp (disch := omega) only [mm_set_s, mm_set_n]
  · simp (disch := omega) only [mm_set_s, mm_set_n]
  · simp (disch := omega) only [mm_set_s, mm_set_n]
  · show mm_set _ _ _ (s0 + 4 + 1) = _
    simp (disch := omega) only [mm_set_s, mm_set_n]
  · show mm_set _ _ _ (s0 + 4 + 2) = _
    simp (disch := omega) only [mm_set_s, mm_set_n]
  · show mm_set _ _ _ (s0 + 4 + 3) = _
    simp (disch := omega) only [mm_set_s, mm_set_n]
  · intro s h1 h2
    simp (disch := omega) only [mm_set_s, mm_set_n]
theorem xp_ind89 {post : Int32 → St1 → Prop} {v hh : Nat} {hx : Int32} (hv : v < 16) (hhx : 8 ≤ v → hx = nI hh ∧ hh < 16) (hS : tm_SG n A Z) (hg : sg_X (tm_sg n A Z) ay gs so) (hM : mm_M 49 86 T L m) (hg0 : 1 ≤ ng) (hg8 : ng < 8) (hl : (m (49 + 4 * (ng - 1))).length ≤ 48) (hr : (m (49 + 4 * (ng - 1) + 1)).length ≤ 48)
    (hL : 48 < (tm_R (tm_sg n A Z) false (m (49 + 4 * (ng - 1))) [tm_vc v] (tm_to v hh) 0).2.length ∨ 48 < (tm_R (tm_sg n A Z) false (m (49 + 4 * (ng - 1) + 1)) [tm_vc v] (tm_to v hh) 0).2.length → ∀ T' L' E' B' m', mm_M 49 86 T' L' m' → (∀ s, s < 81 → m' s = m s) → post (-7) (xn, xq, xa, nI ng, T', L', ay, gs, so, E', B', pv, vl, el))
    (hO : (tm_R (tm_sg n A Z) false (m (49 + 4 * (ng - 1))) [tm_vc v] (tm_to v hh) 0).2.length ≤ 48 → (tm_R (tm_sg n A Z) false (m (49 + 4 * (ng - 1) + 1)) [tm_vc v] (tm_to v hh) 0).2.length ≤ 48 → ∀ T' L' E' B' m', mm_M 49 86 T' L' m' → m' (49 + 4 * (ng - 1)) = (tm_R (tm_sg n A Z) false (m (49 + 4 * (ng - 1))) [tm_vc v] (tm_to v hh) 0).2 → m' (49 + 4 * (ng - 1) + 1) = (tm_R (tm_sg n A Z) false (m (49 + 4 * (ng - 1) + 1)) [tm_vc v] (tm_to v hh) 0).2 →
      m' (49 + 4 * (ng - 1) + 2) = m (49 + 4 * (ng - 1)) → m' (49 + 4 * (ng - 1) + 3) = m (49 + 4 * (ng - 1) + 1) → m' (49 + 4 * (ng - 1) + 4) = (tm_R (tm_sg n A Z) false (m (49 + 4 * (ng - 1))) [tm_vc v] (tm_ba v) 0).2 → m' (49 + 4 * (ng - 1) + 5) = (tm_R (tm_sg n A Z) false (m (49 + 4 * (ng - 1) + 1)) [tm_vc v] (tm_ba v) 0).2 → m' (49 + 4 * (ng - 1) + 6) = [] → m' (49 + 4 * (ng - 1) + 7) = [] →
      (∀ s, s < 81 → s < 49 + 4 * (ng - 1) ∨ 49 + 4 * (ng - 1) + 7 < s → m' s = m s) → post (nI (ng + 1)) (xn, xq, xa, nI (ng + 1), T', L', ay, gs, so, E', B', pv, vl, el)) : wX_induct_89 post (nI v) hx xn xq xa (nI ng) T L ay gs so E B pv vl el := by
  unfold wX_induct_89
  refine xp_step hM hv hhx (fun T1 L1 hM1 => ?_)
  have j84 : mm_set (mm_set m 84 [tm_vc v]) 85 (tm_to v hh) 84 = [tm_vc v] := by rw [mm_set_n (by omega), mm_set_s]
  have j85 : mm_set (mm_set m 84 [tm_vc v]) 85 (tm_to v hh) 85 = tm_to v hh := mm_set_s
  have jf : ∀ s, s < 84 → mm_set (mm_set m 84 [tm_vc v]) 85 (tm_to v hh) s = m s := fun s a => by rw [mm_set_n (by omega), mm_set_n (by omega)]
  refine xp_replS (f := 84) (p := 85) (pat := false) hS hg hM1 hg0 (by omega) (by omega) (by omega) (by omega) (by omega) (by omega) (by omega) (Or.inr ⟨rfl, rfl⟩) (fun T2 L2 E2 B2 m2 hM2 a1 a2 a3 => ?_)
  rw [j84, j85, jf (49 + 4 * (ng - 1)) (by omega)] at a1
  rw [j84, j85, jf (49 + 4 * (ng - 1) + 1) (by omega)] at a2
  have l81 := mm_len hM2 (s := 81) (by omega)
  have l82 := mm_len hM2 (s := 82) (by omega)
  have b81 := mm_le hM2 (s := 81) (by omega)
  have b82 := mm_le hM2 (s := 82) (by omega)
  have t81 := congrArg List.length a1
  have t82 := congrArg List.length a2
  rw [List.length_take] at t81 t82
  have hfr : ∀ s, s < 81 → m2 s = m s := fun s hs => by rw [a3 s (by omega) (by omega), jf s (by omega)]
  dsimp only
  rw [l81, l82]
  refine pk_lt 48 (m2 81).length (fun z => hL (Or.inl (by omega)) T2 L2 E2 B2 m2 hM2 hfr) (fun z => pk_le (m2 82).length 48 (fun z2 => ?_) (fun z2 => hL (Or.inr (by omega)) T2 L2 E2 B2 m2 hM2 hfr))
  rw [mm_tl (by omega)] at a1 a2
  unfold wpX_pushStepAndBase
  dsimp only
  refine xp_top hg0 (by omega) ?_
  rw [show nI (49 + 4 * (ng - 1)) + 4 = nI (49 + 4 * (ng - 1) + 4) from nI_add _ 4]
  refine nm_e (nm_e ?_)
  have hM3 := mm_nil hM2 (s := 85) (by omega)
  have kf : ∀ s, s ≠ 85 → mm_set m2 85 [] s = m2 s := fun s a => mm_set_n a
  have k84 : mm_set m2 85 [] 84 = [tm_vc v] := by rw [kf 84 (by omega), a3 84 (by omega) (by omega), j84]
  have hfin : ∀ c, c < 256 → tm_ba v = [c] → wX_pushStepAndBase_33 (fun u => post u.2.2.2.1 u) (nI (49 + 4 * (ng - 1))) (nI (49 + 4 * (ng - 1) + 4)) (nI c) (nI 85) xn xq xa (nI ng) T2 (upd L2 85 0) ay gs so E2 B2 pv vl el := by
    intro c hc hb
    refine xp_push33 hS hg hM3 hg0 hg8 rfl hc mm_set_s (by rw [kf _ (by omega), hfr _ (by omega)]; exact hl) (by rw [kf _ (by omega), hfr _ (by omega)]; exact hr) (by rw [kf 81 (by omega)]; omega) (by rw [kf 82 (by omega)]; omega) ?_
    rw [kf 81 (by omega), kf 82 (by omega), k84, kf (49 + 4 * (ng - 1)) (by omega), kf (49 + 4 * (ng - 1) + 1) (by omega), hfr (49 + 4 * (ng - 1)) (by omega), hfr (49 + 4 * (ng - 1) + 1) (by omega), a1, a2, ← hb]
    intro T' L' E' B' m' hM' q1 q2 q3 q4 q5 q6 q7 q8 q9
    exact hO (by omega) (by omega) T' L' E' B' m' hM' q1 q2 q3 q4 q5 q6 q7 q8 (fun s h1 h2 => by rw [q9 s h1 h2, kf s (by omega), hfr s h1])
  refine pk_le 8 v (fun h8 => hfin 78 (by omega) (by unfold tm_ba; rw [if_neg (by omega)])) (fun h8 => hfin 90 (by omega) (by unfold tm_ba; rw [if_pos h8]))
theorem xp_induct {post : Int32 → St1 → Prop} {k v : Nat} (hk : k < 8) (hv : v < 16) (hW : iv_W n A Z q ng hy m) (hg : sg_X (tm_sg n A Z) ay gs so) (hM : mm_M 49 86 T L m) (hg0 : 1 ≤ ng)
    (hA : ¬ (tm_vc v ∈ m (49 + 4 * (ng - 1)) ∨ tm_vc v ∈ m (49 + 4 * (ng - 1) + 1)) → post (-6) (xn, xq, nI k, nI ng, T, L, ay, gs, so, E, B, pv, vl, el))
    (hU : tm_vc v ∈ m (49 + 4 * (ng - 1)) ∨ tm_vc v ∈ m (49 + 4 * (ng - 1) + 1) → ng = 8 ∨ (8 ≤ v ∧ ∀ u, 8 * 0 ≤ u → u < 8 * 0 + 8 → fr_p m (49 + 4 * (ng - 1)) u) → post (-4) (xn, xq, nI k, nI ng, T, L, ay, gs, so, E, B, pv, vl, el))
    (hL : ∀ hh, tm_vc v ∈ m (49 + 4 * (ng - 1)) ∨ tm_vc v ∈ m (49 + 4 * (ng - 1) + 1) → ng < 8 → (8 ≤ v → fr_l (fr_p m (49 + 4 * (ng - 1))) (8 * 0) hh) → 48 < (tm_R (tm_sg n A Z) false (m (49 + 4 * (ng - 1))) [tm_vc v] (tm_to v hh) 0).2.length ∨ 48 < (tm_R (tm_sg n A Z) false (m (49 + 4 * (ng - 1) + 1)) [tm_vc v] (tm_to v hh) 0).2.length → ∀ T' L' E' B' m', mm_M 49 86 T' L' m' → (∀ s, s < 81 → m' s = m s) → post (-7) (xn, xq, nI k, nI ng, T', L', ay, gs, so, E', B', pv, vl, el))
    (hO : ∀ hh, tm_vc v ∈ m (49 + 4 * (ng - 1)) ∨ tm_vc v ∈ m (49 + 4 * (ng - 1) + 1) → ng < 8 → (8 ≤ v → fr_l (fr_p m (49 + 4 * (ng - 1))) (8 * 0) hh) → (tm_R (tm_sg n A Z) false (m (49 + 4 * (ng - 1))) [tm_vc v] (tm_to v hh) 0).2.length ≤ 48 → (tm_R (tm_sg n A Z) false (m (49 + 4 * (ng - 1) + 1)) [tm_vc v] (tm_to v hh) 0).2.length ≤ 48 → ∀ T' L' E' B' m', mm_M 49 86 T' L' m' → m' (49 + 4 * (ng - 1)) = (tm_R (tm_sg n A Z) false (m (49 + 4 * (ng - 1))) [tm_vc v] (tm_to v hh) 0).2 → m' (49 + 4 * (ng - 1) + 1) = (tm_R (tm_sg n A Z) false (m (49 + 4 * (ng - 1) + 1)) [tm_vc v] (tm_to v hh) 0).2 →
      m' (49 + 4 * (ng - 1) + 2) = m (49 + 4 * (ng - 1)) → m' (49 + 4 * (ng - 1) + 3) = m (49 + 4 * (ng - 1) + 1) → m' (49 + 4 * (ng - 1) + 4) = (tm_R (tm_sg n A Z) false (m (49 + 4 * (ng - 1))) [tm_vc v] (tm_ba v) 0).2 → m' (49 + 4 * (ng - 1) + 5) = (tm_R (tm_sg n A Z) false (m (49 + 4 * (ng - 1) + 1)) [tm_vc v] (tm_ba v) 0).2 → m' (49 + 4 * (ng - 1) + 6) = [] → m' (49 + 4 * (ng - 1) + 7) = [] →
      (∀ s, s < 81 → s < 49 + 4 * (ng - 1) ∨ 49 + 4 * (ng - 1) + 7 < s → m' s = m s) → post (nI (ng + 1)) (xn, xq, nI k, nI (ng + 1), T', L', ay, gs, so, E', B', pv, vl, el)) : wpX_induct post (xn, xq, nI k, nI ng, T, L, ay, gs, so, E, B, pv, vl, el) (nI v) := by
  unfold wpX_induct
  dsimp only
  obtain ⟨hS, hq8, hg8, h48, hWf, hWr, hWg⟩ := hW
  obtain ⟨⟨s9, w1, w2, w3, w4, w5, w6⟩, _, _⟩ := hWg (ng - 1) (by omega)
  refine br_t (nI_pos' (by omega)) (br_f (nI_pos (by omega)) (br_t (nI_lt (b := 16) hv (by decide)) ?_))
  refine xp_top hg0 hg8 ?_
  refine xp_varsOf hM (by omega) (fun k1 s1 => ?_)
  rw [nI_1]
  refine xp_varsOf hM (by omega) (fun k2 s2 => ?_)
  refine nm_r (vz_or k1 k2) ?_
  obtain ⟨b0, b1⟩ := vz_S_bit (vz_S_or s1 s2) hv
  by_cases hin : tm_vc v ∈ m (49 + 4 * (ng - 1)) ∨ tm_vc v ∈ m (49 + 4 * (ng - 1) + 1)
  · refine br_f (fun z => b0.mp z hin) (pk_lt ng 8 (fun h8 => ?_) (fun h8 => hU hin (Or.inl (by omega))))
    refine pk_lt v 8 (fun v8 => ?_) (fun v8 => ?_)
    · exact xp_ind89 (hh := 0) hv (fun z => by omega) hS hg hM hg0 h8 w5 w6 (hL 0 hin h8 (fun z => by omega)) (hO 0 hin h8 (fun z => by omega))
    · refine xp_fresh (sv := 0) hM hg0 hg8 (by omega) (fun hh hfr => ?_) (fun hno => br_f (by decide) (hU hin (Or.inr ⟨v8, hno⟩)))
      have hh16 : hh < 16 := by
        have := hfr.2.1
        omega
      exact br_t (nI_pos' (by omega)) (xp_ind89 (hh := hh) hv (fun _ => ⟨rfl, hh16⟩) hS hg hM hg0 h8 w5 w6 (hL hh hin h8 (fun _ => hfr)) (hO hh hin h8 (fun _ => hfr)))
  · exact br_t (b0.mpr hin) (hA hin)
end XI
