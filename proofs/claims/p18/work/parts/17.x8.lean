/-! 17: the class: generalize, induct, evaluate -/
def fr_p (m : Nat → List Nat) (s0 v : Nat) : Prop := tm_vc v ∈ m s0 ∨ tm_vc v ∈ m (s0 + 1) ∨ tm_vc v ∈ m (s0 + 2) ∨ tm_vc v ∈ m (s0 + 3)
def tm_to (v h : Nat) : List Nat := if v < 8 then [83, tm_vc v] else [67, tm_vc h, tm_vc v]
def tm_ba (v : Nat) : List Nat := if v < 8 then [90] else [78]
theorem tm_vc_lt {v : Nat} (h : v < 16) : tm_vc v < 256 := by
  unfold tm_vc
  split <;> omega
def ev_X (val : Nat → Nat) (e2 : Nat → Nat → Nat) (vl el : Nat → Int32) : Prop := ∀ v, v < 16 → vl v = nI (val v) ∧ val v ≤ 7 ∧ (8 ≤ v → val v ≤ 4 ∧ ∀ i, i < val v → e2 v i ≤ 3 ∧ (el v >>> (nI (4 * i) &&& 31)) &&& 15 = nI (e2 v i))
section XH
variable {xn xq xa xg : Int32} {T L ay gs so E B pv vl el : Nat → Int32} {m : Nat → List Nat} {n q ng : Nat} {A : Nat → List Nat} {Z : Nat → Nat} {hy : Nat → Bool}
theorem xp_gen87 {post : Int32 → St1 → Prop} {x2 : Int32} {t : List Nat} (hS : tm_SG n A Z) (hg : sg_X (tm_sg n A Z) ay gs so) (hM : mm_M 49 86 T L m) (hg0 : 1 ≤ ng) (hg8 : ng ≤ 8) (ht : m 84 = t) (hl : (m (49 + 4 * (ng - 1))).length ≤ 48) (hr : (m (49 + 4 * (ng - 1) + 1)).length ≤ 48) (hto : x2 < 0 ∨ (m 85).length = 1)
    (hN : (tm_R (tm_sg n A Z) false (m (49 + 4 * (ng - 1))) t t 0).1 + (tm_R (tm_sg n A Z) false (m (49 + 4 * (ng - 1) + 1)) t t 0).1 = 0 → ∀ T' L' E' B' m', mm_M 49 86 T' L' m' → (∀ s, s < 81 → m' s = m s) → post (-8) (xn, xq, xa, nI ng, T', L', ay, gs, so, E', B', pv, vl, el))
    (hU : (tm_R (tm_sg n A Z) false (m (49 + 4 * (ng - 1))) t t 0).1 + (tm_R (tm_sg n A Z) false (m (49 + 4 * (ng - 1) + 1)) t t 0).1 ≠ 0 → x2 < 0 → ∀ T' L' E' B' m', mm_M 49 86 T' L' m' → (∀ s, s < 81 → m' s = m s) → post (-4) (xn, xq, xa, nI ng, T', L', ay, gs, so, E', B', pv, vl, el))
    (hO : (tm_R (tm_sg n A Z) false (m (49 + 4 * (ng - 1))) t t 0).1 + (tm_R (tm_sg n A Z) false (m (49 + 4 * (ng - 1) + 1)) t t 0).1 ≠ 0 → ¬ x2 < 0 → ∀ T' L' E' B' m', mm_M 49 86 T' L' m' → m' (49 + 4 * (ng - 1)) = (tm_R (tm_sg n A Z) false (m (49 + 4 * (ng - 1))) t (m 85) 0).2 → m' (49 + 4 * (ng - 1) + 1) = (tm_R (tm_sg n A Z) false (m (49 + 4 * (ng - 1) + 1)) t (m 85) 0).2 → (∀ s, s < 81 → s ≠ 49 + 4 * (ng - 1) → s ≠ 49 + 4 * (ng - 1) + 1 → m' s = m s) → post (nI ng) (xn, xq, xa, nI ng, T', L', ay, gs, so, E', B', pv, vl, el)) : wX_generalize_87 post x2 xn xq xa (nI ng) T L ay gs so E B pv vl el := by
  unfold wX_generalize_87
  refine xp_replS (f := 84) (p := 85) (pat := false) hS hg hM hg0 hg8 (by omega) (by omega) (by omega) (by omega) (by omega) (by omega) (Or.inr ⟨rfl, rfl⟩) (fun T1 L1 E1 B1 m1 hM1 a1 a2 a3 => ?_)
  rw [ht] at a1 a2 ⊢
  have c1 := tm_R_cnt (g := tm_sg n A Z) (pat := false) (w := m (49 + 4 * (ng - 1))) (fr := t) (to := m 85) _ 0 (Nat.le_refl _)
  have c2 := tm_R_cnt (g := tm_sg n A Z) (pat := false) (w := m (49 + 4 * (ng - 1) + 1)) (fr := t) (to := m 85) _ 0 (Nat.le_refl _)
  have d1 := tm_R_cto (g := tm_sg n A Z) (pat := false) (w := m (49 + 4 * (ng - 1))) (fr := t) (to := m 85) (to' := t) _ 0 (Nat.le_refl _)
  have d2 := tm_R_cto (g := tm_sg n A Z) (pat := false) (w := m (49 + 4 * (ng - 1) + 1)) (fr := t) (to := m 85) (to' := t) _ 0 (Nat.le_refl _)
  rw [d1] at c1
  rw [d2] at c2
  rw [d1, d2]
  refine pk_eq ((tm_R (tm_sg n A Z) false (m (49 + 4 * (ng - 1))) t t 0).1 + (tm_R (tm_sg n A Z) false (m (49 + 4 * (ng - 1) + 1)) t t 0).1) 0 (fun z => hN z T1 L1 E1 B1 m1 hM1 (fun s hs => a3 s (by omega) (by omega))) (fun z => ?_)
  by_cases hx : x2 < 0
  · exact br_f (Int32.not_le.mpr hx) (hU z hx T1 L1 E1 B1 m1 hM1 (fun s hs => a3 s (by omega) (by omega)))
  · refine br_t (Int32.not_lt.mp hx) ?_
    have h1 : (m 85).length = 1 := by
      rcases hto with h | h
      · exact absurd h hx
      · exact h
    have l1 := tm_R_len1 (g := tm_sg n A Z) (w := m (49 + 4 * (ng - 1))) (fr := t) h1 _ 0 (Nat.le_refl _)
    have l2 := tm_R_len1 (g := tm_sg n A Z) (w := m (49 + 4 * (ng - 1) + 1)) (fr := t) h1 _ 0 (Nat.le_refl _)
    rw [mm_tl (by omega)] at a1 a2
    refine xp_top hg0 hg8 ?_
    refine xp_copyText (s := 81) hM1 (by omega) (by omega) (by omega) (fun T3 L3 hM3 => ?_)
    rw [nI_1]
    refine xp_copyText (s := 82) hM3 (by omega) (by omega) (by omega) (fun T4 L4 hM4 => ?_)
    rw [mm_set_n (j := 82) (by omega), a1, a2] at hM4
    refine hO z hx T4 L4 E1 B1 _ hM4 ?_ mm_set_s ?_
    · rw [mm_set_n (by omega), mm_set_s]
    · intro s s1 s2 s3
      rw [mm_set_n s3, mm_set_n s2, a3 s (by omega) (by omega)]
theorem xp_gen {post : Int32 → St1 → Prop} (hW : iv_W n A Z q ng hy m) (hg : sg_X (tm_sg n A Z) ay gs so) (hM : mm_M 49 86 T L m) (hact : (xa = -1) ∨ (∃ k, k < 8 ∧ xa = nI k ∧ 1 ≤ ng))
    (hA : xa = -1 → ∀ T' L' E' B' m', mm_M 49 86 T' L' m' → m' 0 = [] → (∀ s, 1 ≤ s → s < 81 → m' s = m s) → post (-5) (xn, xq, xa, nI ng, T', L', ay, gs, so, E', B', pv, vl, el))
    (hSy : xa ≠ -1 → tm_ts (tm_sg n A Z) (m 0) = none → ∀ T' L' E' B' m', mm_M 49 86 T' L' m' → m' 0 = [] → (∀ s, 1 ≤ s → s < 81 → m' s = m s) → post (-1) (xn, xq, xa, nI ng, T', L', ay, gs, so, E', B', pv, vl, el))
    (hF : ∀ sv, xa ≠ -1 → tm_ts (tm_sg n A Z) (m 0) = some sv → (m 0).length = 1 ∧ tm_vn (tm_at (m 0) 0) ≠ none → ∀ T' L' E' B' m', mm_M 49 86 T' L' m' → m' 0 = [] → (∀ s, 1 ≤ s → s < 81 → m' s = m s) → post (-2) (xn, xq, xa, nI ng, T', L', ay, gs, so, E', B', pv, vl, el))
    (hN : ∀ sv, xa ≠ -1 → tm_ts (tm_sg n A Z) (m 0) = some sv → ¬ ((m 0).length = 1 ∧ tm_vn (tm_at (m 0) 0) ≠ none) → (tm_R (tm_sg n A Z) false (m (49 + 4 * (ng - 1))) (m 0) (m 0) 0).1 + (tm_R (tm_sg n A Z) false (m (49 + 4 * (ng - 1) + 1)) (m 0) (m 0) 0).1 = 0 → ∀ T' L' E' B' m', mm_M 49 86 T' L' m' → m' 0 = [] → (∀ s, 1 ≤ s → s < 81 → m' s = m s) → post (-8) (xn, xq, xa, nI ng, T', L', ay, gs, so, E', B', pv, vl, el))
    (hU : ∀ sv, xa ≠ -1 → tm_ts (tm_sg n A Z) (m 0) = some sv → ¬ ((m 0).length = 1 ∧ tm_vn (tm_at (m 0) 0) ≠ none) → (tm_R (tm_sg n A Z) false (m (49 + 4 * (ng - 1))) (m 0) (m 0) 0).1 + (tm_R (tm_sg n A Z) false (m (49 + 4 * (ng - 1) + 1)) (m 0) (m 0) 0).1 ≠ 0 → (∀ v, 8 * sv ≤ v → v < 8 * sv + 8 → fr_p m (49 + 4 * (ng - 1)) v) → ∀ T' L' E' B' m', mm_M 49 86 T' L' m' → m' 0 = [] → (∀ s, 1 ≤ s → s < 81 → m' s = m s) → post (-4) (xn, xq, xa, nI ng, T', L', ay, gs, so, E', B', pv, vl, el))
    (hO : ∀ sv v, xa ≠ -1 → tm_ts (tm_sg n A Z) (m 0) = some sv → ¬ ((m 0).length = 1 ∧ tm_vn (tm_at (m 0) 0) ≠ none) → (tm_R (tm_sg n A Z) false (m (49 + 4 * (ng - 1))) (m 0) (m 0) 0).1 + (tm_R (tm_sg n A Z) false (m (49 + 4 * (ng - 1) + 1)) (m 0) (m 0) 0).1 ≠ 0 → fr_l (fr_p m (49 + 4 * (ng - 1))) (8 * sv) v → ∀ T' L' E' B' m', mm_M 49 86 T' L' m' → m' 0 = [] → m' (49 + 4 * (ng - 1)) = (tm_R (tm_sg n A Z) false (m (49 + 4 * (ng - 1))) (m 0) [tm_vc v] 0).2 → m' (49 + 4 * (ng - 1) + 1) = (tm_R (tm_sg n A Z) false (m (49 + 4 * (ng - 1) + 1)) (m 0) [tm_vc v] 0).2 → (∀ s, 1 ≤ s → s < 81 → s ≠ 49 + 4 * (ng - 1) → s ≠ 49 + 4 * (ng - 1) + 1 → m' s = m s) → post (nI ng) (xn, xq, xa, nI ng, T', L', ay, gs, so, E', B', pv, vl, el)) : wpX_generalize post (xn, xq, xa, nI ng, T, L, ay, gs, so, E, B, pv, vl, el) := by
  unfold wpX_generalize
  dsimp only
  obtain ⟨hS, hq8, hg8, h48, hWf, hWr, hWg⟩ := hW
  refine xp_copyText (s := 0) (t := 84) hM (by omega) (by omega) (by omega) (fun T1 L1 hM1 => ?_)
  have hM2 := mm_nil hM1 (s := 0) (by omega)
  have e84 : mm_set (mm_set m 84 (m 0)) 0 [] 84 = m 0 := by rw [mm_set_n (by omega), mm_set_s]
  have e0 : mm_set (mm_set m 84 (m 0)) 0 [] 0 = [] := mm_set_s
  have hfr : ∀ s, s ≠ 0 → s ≠ 84 → mm_set (mm_set m 84 (m 0)) 0 [] s = m s := fun s a b => by rw [mm_set_n a, mm_set_n b]
  refine nm_e ?_
  rcases hact with hx | ⟨k, hk, hx, hg0⟩
  · exact br_f (show ¬ (0 : Int32) ≤ xa by rw [hx]; decide) (hA hx T1 _ E B _ hM2 e0 (fun s a b => hfr s (by omega) (by omega)))
  · have hne : xa ≠ -1 := by rw [hx]; exact xi_neg (by omega)
    refine br_t (show (0 : Int32) ≤ xa by rw [hx]; exact nI_pos' (by omega)) ?_
    have hl84 := mm_len hM2 (s := 84) (by omega)
    rw [e84] at hl84
    show wpX_termSort _ _ 84 0 (upd L1 0 0 84)
    rw [hl84]
    have htt : ((mm_set (mm_set m 84 (m 0)) 0 [] 84).take (m 0).length).drop 0 = m 0 := by rw [e84, mm_tl (Nat.le_refl _), List.drop_zero]
    refine xp_sort (s := 84) (start := 0) hS hg hM2 (by omega) (by rw [e84]; exact Nat.le_refl _) h48 (by omega) ?_ ?_
    · rw [htt]
      intro sv hts
      have hsv : sv < 2 := by
        have p1 := tm_ts_P.mp hts
        obtain ⟨a, s, S', hga, hSS, _⟩ := (tm_P_suf p1 (i := 0) (tm_P_ne p1))
        rw [List.drop_zero] at hSS
        have := tm_P_uniq _ _ _ hSS p1
        obtain ⟨rfl, _⟩ := List.cons.inj this
        exact (tm_sg_b hS hga).2.2.1
      refine br_t (nI_pos' (by omega)) ?_
      refine xp_single (s := 84) hM2 (by omega) ?_ ?_
      · rw [e84]
        exact fun z1 z2 => br_f (by decide) (hF sv hne hts ⟨z1, z2⟩ T1 _ E B _ hM2 e0 (fun s a b => hfr s (by omega) (by omega)))
      · rw [e84]
        intro hns
        refine br_t rfl ?_
        obtain ⟨⟨s9, w1, w2, w3, w4, w5, w6⟩, _, _⟩ := hWg (ng - 1) (by omega)
        have g0 : mm_set (mm_set m 84 (m 0)) 0 [] (49 + 4 * (ng - 1)) = m (49 + 4 * (ng - 1)) := hfr _ (by omega) (by omega)
        have g1 : mm_set (mm_set m 84 (m 0)) 0 [] (49 + 4 * (ng - 1) + 1) = m (49 + 4 * (ng - 1) + 1) := hfr _ (by omega) (by omega)
        have g2 : mm_set (mm_set m 84 (m 0)) 0 [] (49 + 4 * (ng - 1) + 2) = m (49 + 4 * (ng - 1) + 2) := hfr _ (by omega) (by omega)
        have g3 : mm_set (mm_set m 84 (m 0)) 0 [] (49 + 4 * (ng - 1) + 3) = m (49 + 4 * (ng - 1) + 3) := hfr _ (by omega) (by omega)
        have hM3 := mm_nil hM2 (s := 85) (by omega)
        refine xp_fresh hM2 hg0 hg8 hsv ?_ ?_
        · rw [g0, g1, g2, g3]
          intro v hv
          have hv16 : v < 16 := by
            have := hv.2.1
            omega
          refine nm_e (br_f (nI_pos (by omega)) ?_)
          refine xp_letter hv16 ?_
          refine xp_append (s := 85) hM3 (by omega) (tm_vc_lt hv16) (fun T4 L4 hM4 => ?_)
          rw [mm_set_s, mm_set_set, List.nil_append, mm_tl (K := 49) (by rw [List.length_singleton]; omega)] at hM4
          have k84 : mm_set (mm_set (mm_set m 84 (m 0)) 0 []) 85 [tm_vc v] 84 = m 0 := by rw [mm_set_n (by omega), e84]
          have k85 : mm_set (mm_set (mm_set m 84 (m 0)) 0 []) 85 [tm_vc v] 85 = [tm_vc v] := mm_set_s
          have kf : ∀ s, s ≠ 0 → s < 81 → mm_set (mm_set (mm_set m 84 (m 0)) 0 []) 85 [tm_vc v] s = m s := fun s a b => by rw [mm_set_n (by omega), hfr s a (by omega)]
          have k0 : mm_set (mm_set (mm_set m 84 (m 0)) 0 []) 85 [tm_vc v] 0 = [] := by rw [mm_set_n (by omega), e0]
          refine xp_gen87 (t := m 0) hS hg hM4 hg0 hg8 k84 (by rw [kf _ (by omega) (by omega)]; exact w5) (by rw [kf _ (by omega) (by omega)]; exact w6) (Or.inr (by rw [k85]; rfl)) ?_ ?_ ?_
          · rw [kf (49 + 4 * (ng - 1)) (by omega) (by omega), kf (49 + 4 * (ng - 1) + 1) (by omega) (by omega)]
            intro z T5 L5 E5 B5 m5 hM5 f5
            exact hN sv hne hts hns z T5 L5 E5 B5 m5 hM5 (by rw [f5 0 (by omega), k0]) (fun s a b => by rw [f5 s b, kf s (by omega) b])
          · intro _ z
            exact absurd z (nI_pos (by omega))
          · rw [kf (49 + 4 * (ng - 1)) (by omega) (by omega), kf (49 + 4 * (ng - 1) + 1) (by omega) (by omega), k85]
            intro z _ T5 L5 E5 B5 m5 hM5 q1 q2 f5
            exact hO sv v hne hts hns z hv T5 L5 E5 B5 m5 hM5 (by rw [f5 0 (by omega) (by omega) (by omega), k0]) q1 q2 (fun s a b c d => by rw [f5 s b c d, kf s (by omega) b])
        · rw [g0, g1, g2, g3]
          intro hv
          refine nm_e (br_t (by decide) ?_)
          have k84 : mm_set (mm_set (mm_set m 84 (m 0)) 0 []) 85 [] 84 = m 0 := by rw [mm_set_n (by omega), e84]
          have kf : ∀ s, s ≠ 0 → s < 81 → mm_set (mm_set (mm_set m 84 (m 0)) 0 []) 85 [] s = m s := fun s a b => by rw [mm_set_n (by omega), hfr s a (by omega)]
          have k0 : mm_set (mm_set (mm_set m 84 (m 0)) 0 []) 85 [] 0 = [] := by rw [mm_set_n (by omega), e0]
          refine xp_gen87 (t := m 0) hS hg hM3 hg0 hg8 k84 (by rw [kf _ (by omega) (by omega)]; exact w5) (by rw [kf _ (by omega) (by omega)]; exact w6) (Or.inl (by decide)) ?_ ?_ ?_
          · rw [kf (49 + 4 * (ng - 1)) (by omega) (by omega), kf (49 + 4 * (ng - 1) + 1) (by omega) (by omega)]
            intro z T5 L5 E5 B5 m5 hM5 f5
            exact hN sv hne hts hns z T5 L5 E5 B5 m5 hM5 (by rw [f5 0 (by omega), k0]) (fun s a b => by rw [f5 s b, kf s (by omega) b])
          · rw [kf (49 + 4 * (ng - 1)) (by omega) (by omega), kf (49 + 4 * (ng - 1) + 1) (by omega) (by omega)]
            intro z _ T5 L5 E5 B5 m5 hM5 f5
            exact hU sv hne hts hns z hv T5 L5 E5 B5 m5 hM5 (by rw [f5 0 (by omega), k0]) (fun s a b => by rw [f5 s b, kf s (by omega) b])
          · intro _ z
            exact absurd (show (-1 : Int32) < 0 by decide) z
    · rw [htt]
      intro hts
      exact br_f (by decide) (hSy hne hts T1 _ E B _ hM2 e0 (fun s a b => hfr s (by omega) (by omega)))
end XH
