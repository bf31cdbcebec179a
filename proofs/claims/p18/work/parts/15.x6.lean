/-! 15: the class: defineRule, conjecture, and what simp, useHyp, useLemma share -/
theorem tm_ar_lt {n : Nat} {A : Nat → List Nat} {Z : Nat → Nat} (hS : tm_SG n A Z) (c : Nat) : tm_ar (tm_sg n A Z) c < 2 ^ 30 := by
  cases e : tm_sg n A Z c with
  | none =>
    unfold tm_ar
    rw [e]
    decide
  | some p =>
    obtain ⟨a, s⟩ := p
    rw [tm_ar_some e]
    have := (tm_sg_b hS e).1
    omega
def tm_N (g : tm_G) (R : Nat → List Nat) (w : List Nat) : Option (List Nat) := if w.length ≤ 48 then tm_nz g R 128 w else none
theorem tm_N_take {g : tm_G} {R : Nat → List Nat} {w : List Nat} : tm_N g R (w.take 49) = tm_N g R w := by
  unfold tm_N
  by_cases h : w.length ≤ 48
  · rw [mm_tl (by omega), if_pos h]
  · rw [if_neg h, if_neg (by rw [List.length_take]; omega)]
theorem tm_nz_ext {g : tm_G} {R R' : Nat → List Nat} (h : ∀ i, i < 32 → R' i = R i) (n : Nat) : ∀ w, tm_nz g R' n w = tm_nz g R n w := by
  have hst : ∀ w i, tm_rx w w.length = some i → tm_st g R' w i = tm_st g R w i := by
    intro w i hi
    have hr := (tm_rx_lt _ _ hi).2
    have hfn : tm_fn (tm_at w i) := hr.1
    obtain ⟨k, hk⟩ : ∃ k, tm_kd (tm_at w (i + 1)) = some k := Option.ne_none_iff_exists'.mp hr.2
    have hk2 : k < 2 := by
      have := tm_kd_c hk
      omega
    have hri : tm_ri w i = 4 * (tm_at w i - 70) + 2 * k := by
      unfold tm_ri
      rw [hk]
      rfl
    unfold tm_st
    rw [h (tm_ri w i) (by omega), h (tm_ri w i + 1) (by omega)]
  induction n with
  | zero =>
    intro w
    cases hx : tm_rx w w.length with
    | none => rw [tm_nz_no hx, tm_nz_no hx]
    | some i => rw [tm_nz_0 hx, tm_nz_0 hx]
  | succ n ih =>
    intro w
    cases hx : tm_rx w w.length with
    | none => rw [tm_nz_no hx, tm_nz_no hx]
    | some i => rw [tm_nz_s hx, tm_nz_s hx, hst w i hx, ih]
theorem tm_N_ext {g : tm_G} {R R' : Nat → List Nat} (h : ∀ i, i < 32 → R' i = R i) (w : List Nat) : tm_N g R' w = tm_N g R w := by
  unfold tm_N
  rw [tm_nz_ext h]
theorem tm_N_ok {g : tm_G} {R : Nat → List Nat} {S w w' : List Nat} (hG : tm_GS g) (hR : tm_RU g R) (h : w.length ≤ 48 → tm_P g S w ∧ tm_FC R w) (e : tm_N g R w = some w') : tm_P g S w' ∧ tm_FC R w' ∧ w'.length ≤ 48 := by
  unfold tm_N at e
  by_cases hl : w.length ≤ 48
  · rw [if_pos hl] at e
    exact tm_nz_ok hG hR 128 w w' (h hl).1 (h hl).2 hl e
  · rw [if_neg hl] at e
    cases e
section XF
variable {xn xq xa xg : Int32} {T L ay gs so E B pv vl el : Nat → Int32} {m : Nat → List Nat} {n q ng : Nat} {A : Nat → List Nat} {Z : Nat → Nat} {hy : Nat → Bool}
theorem xp_define {post : Int32 → St1 → Prop} (hW : iv_W n A Z q ng hy m) (hg : sg_X (tm_sg n A Z) ay gs so) (hM : mm_M 49 86 T L m)
    (hS : (∀ e, ¬ eq_Q (tm_sg n A Z) (m 0) e) → post (-1) (xn, xq, xa, xg, T, upd L 0 0, ay, gs, so, E, B, pv, vl, el))
    (hF : ∀ e, eq_Q (tm_sg n A Z) (m 0) e → ¬ eq_F (iv_R m) (m 0) e → post (-2) (xn, xq, xa, xg, T, upd L 0 0, ay, gs, so, E, B, pv, vl, el))
    (hD : ∀ e k, eq_Q (tm_sg n A Z) (m 0) e → eq_F (iv_R m) (m 0) e → tm_kd (tm_at (m 0) 1) = some k → iv_R m (4 * (tm_at (m 0) 0 - 70) + 2 * k) ≠ [] → post (-3) (xn, xq, xa, xg, T, upd L 0 0, ay, gs, so, E, B, pv, vl, el))
    (hO : ∀ e k T' L' m', eq_Q (tm_sg n A Z) (m 0) e → eq_F (iv_R m) (m 0) e → tm_kd (tm_at (m 0) 1) = some k → iv_R m (4 * (tm_at (m 0) 0 - 70) + 2 * k) = [] → mm_M 49 86 T' L' m' → m' 0 = [] → m' (17 + (4 * (tm_at (m 0) 0 - 70) + 2 * k)) = (m 0).take e → m' (17 + (4 * (tm_at (m 0) 0 - 70) + 2 * k + 1)) = (m 0).drop (e + 1) →
      (∀ s, s ≠ 0 → s ≠ 17 + (4 * (tm_at (m 0) 0 - 70) + 2 * k) → s ≠ 17 + (4 * (tm_at (m 0) 0 - 70) + 2 * k + 1) → m' s = m s) → post 0 (xn, xq, xa, xg, T', L', ay, gs, so, E, B, pv, vl, el)) : wpX_defineRule post (xn, xq, xa, xg, T, L, ay, gs, so, E, B, pv, vl, el) := by
  unfold wpX_defineRule
  dsimp only
  have h48 := hW.2.2.2.1
  refine xp_feq hW.1 hg hM h48 (fun e hQ => ?_) (fun hno => ?_)
  · have he := hQ.1
    refine xp_judgeR hM he (fun hnF => ?_) (fun k hFF hk hne => ?_) (fun k hFF hk hnil => ?_)
    · exact br_f (by decide) (nm_e (hF e hQ hnF))
    · exact br_f (by decide) (nm_e (hD e k hQ hFF hk hne))
    · refine br_t rfl ?_
      have hfn : tm_fn (tm_at (m 0) 0) := hFF.1.1
      have hk2 : k < 2 := by
        have := tm_kd_c hk
        omega
      have hnil2 := (hW.2.2.2.2.2.1.2.1 (tm_at (m 0) 0 - 70) k (by omega) hk2).2 hnil
      refine xp_bslot hM hfn hk ?_
      refine xp_copySpan (s := 0) (start := 0) hM (by omega) (by omega) (by omega) (by omega) (Nat.zero_le _) (fun T1 L1 hM1 => ?_)
      have ht1 : m (17 + (4 * (tm_at (m 0) 0 - 70) + 2 * k)) = [] := hnil
      have ht2 : m (17 + (4 * (tm_at (m 0) 0 - 70) + 2 * k + 1)) = [] := hnil2
      rw [ht1, List.nil_append, List.drop_zero, Nat.sub_zero, mm_tl (K := 49) (by rw [List.length_take]; omega)] at hM1
      have hl1 := mm_len hM1 (s := 0) (by omega)
      rw [mm_set_n (by omega)] at hl1
      dsimp only
      rw [hl1, show nI (17 + (4 * (tm_at (m 0) 0 - 70) + 2 * k)) + 1 = nI (17 + (4 * (tm_at (m 0) 0 - 70) + 2 * k + 1)) from by rw [nI_1, Nat.add_assoc], nI_1 e]
      refine xp_copySpan (s := 0) hM1 (by omega) (by omega) (by omega) (by rw [mm_set_n (by omega)]; exact Nat.le_refl _) (by omega) (fun T2 L2 hM2 => ?_)
      rw [mm_set_n (m := m) (s := 17 + (4 * (tm_at (m 0) 0 - 70) + 2 * k)) (j := 17 + (4 * (tm_at (m 0) 0 - 70) + 2 * k + 1)) (by omega), mm_set_n (m := m) (s := 17 + (4 * (tm_at (m 0) 0 - 70) + 2 * k)) (j := 0) (by omega), ht2, List.nil_append, mm_tl (K := (m 0).length - (e + 1)) (by rw [List.length_drop]; exact Nat.le_refl _), mm_tl (K := 49) (by rw [List.length_drop]; omega)] at hM2
      have hM3 := mm_nil hM2 (s := 0) (by omega)
      refine nm_e (hO e k T2 _ _ hQ hFF hk hnil hM3 mm_set_s ?_ ?_ ?_)
      · rw [mm_set_n (by omega), mm_set_n (by omega), mm_set_s]
      · rw [mm_set_n (by omega), mm_set_s]
      · intro s s0 s1 s2
        rw [mm_set_n s0, mm_set_n s2, mm_set_n s1]
  · unfold wpX_judgeRule
    dsimp only
    exact br_f (by decide) (br_f (by decide) (nm_e (hS hno)))
theorem xp_conj {post : Int32 → St1 → Prop} (hW : iv_W n A Z q ng hy m) (hg : sg_X (tm_sg n A Z) ay gs so) (hM : mm_M 49 86 T L m)
    (hS : (∀ e, ¬ eq_Q (tm_sg n A Z) (m 0) e) → post (-1) (xn, nI q, xa, xg, T, upd L 0 0, ay, gs, so, E, B, pv, vl, el))
    (hF : ∀ e, eq_Q (tm_sg n A Z) (m 0) e → ¬ tm_FC (iv_R m) (m 0) → post (-2) (xn, nI q, xa, xg, T, upd L 0 0, ay, gs, so, E, B, pv, vl, el))
    (hU : ∀ e, eq_Q (tm_sg n A Z) (m 0) e → tm_FC (iv_R m) (m 0) → q = 8 → post (-4) (xn, nI q, xa, xg, T, upd L 0 0, ay, gs, so, E, B, pv, vl, el))
    (hO : ∀ e T' L' m', eq_Q (tm_sg n A Z) (m 0) e → tm_FC (iv_R m) (m 0) → q < 8 → mm_M 49 86 T' L' m' → m' 0 = [] → m' (1 + 2 * q) = (m 0).take e → m' (1 + 2 * q + 1) = (m 0).drop (e + 1) → m' 49 = (m 0).take e → m' 50 = (m 0).drop (e + 1) → m' 51 = [] → m' 52 = [] →
      (∀ s, s ≠ 0 → s ≠ 1 + 2 * q → s ≠ 1 + 2 * q + 1 → s ≠ 49 → s ≠ 50 → s ≠ 51 → s ≠ 52 → m' s = m s) → post (nI q) (xn, nI (q + 1), nI q, 1, T', L', ay, gs, so, E, B, pv, vl, el)) : wpX_conjecture post (xn, nI q, xa, xg, T, L, ay, gs, so, E, B, pv, vl, el) := by
  unfold wpX_conjecture
  dsimp only
  have h48 := hW.2.2.2.1
  refine xp_feq hW.1 hg hM h48 (fun e hQ => ?_) (fun hno => ?_)
  · have he := hQ.1
    refine xp_judgeC hW.2.1 hM he (fun hnF => ?_) (fun hFC hq8 => ?_) (fun hFC hq8 => ?_)
    · exact br_f (by decide) (nm_e (hF e hQ hnF))
    · exact br_f (by decide) (nm_e (hU e hQ hFC hq8))
    · refine br_t rfl ?_
      unfold wpX_enterFormula
      dsimp only
      rw [show (1 : Int32) + 2 * nI q = nI (1 + 2 * q) from by rw [show (2 : Int32) * nI q = nI (2 * q) from pk_mul 2 q]; exact nI_add 1 _]
      refine nm_e ?_
      have ht1 : m (1 + 2 * q) = [] := hW.2.2.2.2.1.2 (2 * q) (Nat.le_refl _) (by omega)
      have ht2 : m (1 + 2 * q + 1) = [] := hW.2.2.2.2.1.2 (2 * q + 1) (by omega) (by omega)
      refine xp_copySpan (s := 0) (start := 0) hM (by omega) (by omega) (by omega) (by omega) (Nat.zero_le _) (fun T1 L1 hM1 => ?_)
      rw [ht1, List.nil_append, List.drop_zero, Nat.sub_zero, mm_tl (K := 49) (by rw [List.length_take]; omega)] at hM1
      have hl1 := mm_len hM1 (s := 0) (by omega)
      rw [mm_set_n (by omega)] at hl1
      dsimp only
      rw [hl1, nI_1 (1 + 2 * q), nI_1 e]
      refine xp_copySpan (s := 0) hM1 (by omega) (by omega) (by omega) (by rw [mm_set_n (by omega)]; exact Nat.le_refl _) (by omega) (fun T2 L2 hM2 => ?_)
      rw [mm_set_n (m := m) (s := 1 + 2 * q) (j := 1 + 2 * q + 1) (by omega), mm_set_n (m := m) (s := 1 + 2 * q) (j := 0) (by omega), ht2, List.nil_append, mm_tl (K := (m 0).length - (e + 1)) (by rw [List.length_drop]; exact Nat.le_refl _), mm_tl (K := 49) (by rw [List.length_drop]; omega)] at hM2
      refine xp_copyText (t := 49) hM2 (by omega) (by omega) (by omega) (fun T3 L3 hM3 => ?_)
      rw [mm_set_n (m := mm_set m (1 + 2 * q) ((m 0).take e)) (s := 1 + 2 * q + 1) (j := 1 + 2 * q) (by omega), mm_set_s] at hM3
      refine xp_copyText (t := 50) hM3 (by omega) (by omega) (by omega) (fun T4 L4 hM4 => ?_)
      rw [mm_set_n (s := 49) (j := 1 + 2 * q + 1) (by omega), mm_set_s] at hM4
      have hM5 := mm_nil (mm_nil (mm_nil hM4 (s := 51) (by omega)) (s := 52) (by omega)) (s := 0) (by omega)
      refine nm_e (nm_e (nm_r (nI_1 q) (nm_e (hO e T4 _ _ hQ hFC hq8 hM5 mm_set_s ?_ ?_ ?_ ?_ ?_ ?_ ?_))))
      · rw [mm_set_n (by omega), mm_set_n (by omega), mm_set_n (by omega), mm_set_n (by omega), mm_set_n (by omega), mm_set_n (by omega), mm_set_s]
      · rw [mm_set_n (by omega), mm_set_n (by omega), mm_set_n (by omega), mm_set_n (by omega), mm_set_n (by omega), mm_set_s]
      · rw [mm_set_n (by omega), mm_set_n (by omega), mm_set_n (by omega), mm_set_n (by omega), mm_set_s]
      · rw [mm_set_n (by omega), mm_set_n (by omega), mm_set_n (by omega), mm_set_s]
      · rw [mm_set_n (by omega), mm_set_n (by omega), mm_set_s]
      · rw [mm_set_n (by omega), mm_set_s]
      · intro s s0 s1 s2 s3 s4 s5 s6
        rw [mm_set_n s0, mm_set_n s6, mm_set_n s5, mm_set_n s4, mm_set_n s3, mm_set_n s2, mm_set_n s1]
  · unfold wpX_judgeConjecture
    dsimp only
    exact br_f (by decide) (br_f (by decide) (nm_e (hS hno)))
theorem xp_normN {post : Int32 → St1 → Prop} (hS : tm_SG n A Z) (hR : tm_RU (tm_sg n A Z) (iv_R m)) (hg : sg_X (tm_sg n A Z) ay gs so) (hM : mm_M 49 86 T L m) {s : Nat} (hs : s < 83) (hs2 : 81 ≤ s) {S : List Nat} (hw : (m s).length ≤ 48 → tm_P (tm_sg n A Z) S (m s) ∧ tm_FC (iv_R m) (m s))
    (h1 : ∀ w', tm_N (tm_sg n A Z) (iv_R m) (m s) = some w' → ∀ T' L' E' B' m', mm_M 49 86 T' L' m' → m' s = w' → (∀ u, u ≠ s → u ≠ 83 → m' u = m u) → post 1 (xn, xq, xa, xg, T', L', ay, gs, so, E', B', pv, vl, el))
    (h0 : tm_N (tm_sg n A Z) (iv_R m) (m s) = none → ∀ T' L' E' B' m', mm_M 49 86 T' L' m' → (∀ u, u ≠ s → u ≠ 83 → m' u = m u) → post 0 (xn, xq, xa, xg, T', L', ay, gs, so, E', B', pv, vl, el)) : wpX_normalize post (xn, xq, xa, xg, T, L, ay, gs, so, E, B, pv, vl, el) (nI s) := by
  refine xp_norm (tm_sg_GS hS) hR hg (tm_ar_lt hS) hM hs hs2 hw (fun w' hl e => h1 w' ?_) (fun e => h0 ?_)
  · unfold tm_N
    rw [if_pos hl]
    exact e
  · unfold tm_N
    by_cases hl : (m s).length ≤ 48
    · rw [if_pos hl]
      exact e hl
    · rw [if_neg hl]
theorem xp_settle {post : Int32 → St1 → Prop} {k : Nat} (hk : k < 8) (hS : tm_SG n A Z) (hR : tm_RU (tm_sg n A Z) (iv_R m)) (hg : sg_X (tm_sg n A Z) ay gs so) (hM : mm_M 49 86 T L m) (hg0 : 1 ≤ ng) (hg8 : ng ≤ 8) {S1 S2 : List Nat} (hw1 : (m 81).length ≤ 48 → tm_P (tm_sg n A Z) S1 (m 81) ∧ tm_FC (iv_R m) (m 81)) (hw2 : (m 82).length ≤ 48 → tm_P (tm_sg n A Z) S2 (m 82) ∧ tm_FC (iv_R m) (m 82))
    (hL : tm_N (tm_sg n A Z) (iv_R m) (m 81) = none ∨ tm_N (tm_sg n A Z) (iv_R m) (m 82) = none → ∀ T' L' E' B' m', mm_M 49 86 T' L' m' → (∀ s, s < 81 → m' s = m s) → post (-7) (xn, xq, nI k, nI ng, T', L', ay, gs, so, E', B', pv, vl, el))
    (hO : ∀ u v T' L' E' B' m', tm_N (tm_sg n A Z) (iv_R m) (m 81) = some u → tm_N (tm_sg n A Z) (iv_R m) (m 82) = some v → mm_M 49 86 T' L' m' → m' (49 + 4 * (ng - 1)) = u → m' (49 + 4 * (ng - 1) + 1) = v → (∀ s, s < 81 → s ≠ 49 + 4 * (ng - 1) → s ≠ 49 + 4 * (ng - 1) + 1 → m' s = m s) →
      (u ≠ v → post (nI ng) (xn, xq, nI k, nI ng, T', L', ay, gs, so, E', B', pv, vl, el)) ∧ (u = v → ng = 1 → post 0 (xn, xq, -1, 0, T', L', ay, gs, so, E', B', upd pv k 1, vl, el)) ∧ (u = v → 1 < ng → post (nI (ng - 1)) (xn, xq, nI k, nI (ng - 1), T', L', ay, gs, so, E', B', pv, vl, el))) : wpX_settleTopGoal post (xn, xq, nI k, nI ng, T, L, ay, gs, so, E, B, pv, vl, el) := by
  unfold wpX_settleTopGoal
  dsimp only
  refine xp_normN (s := 81) hS hR hg hM (by omega) (by omega) hw1 (fun u hu T1 L1 E1 B1 m1 hM1 e1 f1 => ?_) (fun hu T1 L1 E1 B1 m1 hM1 f1 => ?_)
  · refine br_f (by decide) ?_
    have hR1 : ∀ i, i < 32 → iv_R m1 i = iv_R m i := fun i hi => f1 _ (by omega) (by omega)
    have e82 : m1 82 = m 82 := f1 82 (by omega) (by omega)
    refine xp_normN (s := 82) (S := S2) hS (iv_RU_mono (fun _ _ h => h) hR1 hR) hg hM1 (by omega) (by omega) ?_ ?_ ?_
    · rw [e82]
      exact fun hl => ⟨(hw2 hl).1, iv_FC_ext (iv_eqne hR1) (hw2 hl).2⟩
    · rw [tm_N_ext hR1, e82]
      intro v hv T2 L2 E2 B2 m2 hM2 e2 f2
      refine br_f (by decide) ?_
      refine xp_top hg0 hg8 ?_
      refine xp_copyText (s := 81) hM2 (by omega) (by omega) (by omega) (fun T3 L3 hM3 => ?_)
      rw [f2 81 (by omega) (by omega), e1] at hM3
      rw [nI_1]
      refine xp_copyText (s := 82) hM3 (by omega) (by omega) (by omega) (fun T4 L4 hM4 => ?_)
      rw [mm_set_n (j := 82) (by omega), e2] at hM4
      have q81 : mm_set (mm_set m2 (49 + 4 * (ng - 1)) u) (49 + 4 * (ng - 1) + 1) v 81 = u := by
        rw [mm_set_n (by omega), mm_set_n (by omega), f2 81 (by omega) (by omega), e1]
      have q82 : mm_set (mm_set m2 (49 + 4 * (ng - 1)) u) (49 + 4 * (ng - 1) + 1) v 82 = v := by
        rw [mm_set_n (by omega), mm_set_n (by omega), e2]
      obtain ⟨o1, o2, o3⟩ := hO u v T4 L4 E2 B2 _ hu hv hM4 (by rw [mm_set_n (by omega), mm_set_s]) mm_set_s (fun s s1 s2 s3 => by rw [mm_set_n s3, mm_set_n s2, f2 s (by omega) (by omega), f1 s (by omega) (by omega)])
      refine xp_sameT (a := 81) (b := 82) hM4 (by omega) (by omega) ?_ ?_
      · rw [q81, q82]
        intro e
        refine br_f (by decide) ?_
        unfold wpX_closeTopGoal
        dsimp only
        rw [xi_m1 hg0]
        refine nm_e (pk_eq (ng - 1) 0 (fun z => ?_) (fun z => ?_))
        · rw [nI_clamp (n := k) (by omega), z]
          exact ⟨vp_in_nI hk (by omega), nm_e (o2 e (by omega))⟩
        · exact o3 e (by omega)
      · rw [q81, q82]
        intro e
        exact br_t rfl (o1 e)
    · rw [tm_N_ext hR1, e82]
      intro hv T2 L2 E2 B2 m2 hM2 f2
      exact br_t rfl (hL (Or.inr hv) T2 L2 E2 B2 m2 hM2 (fun s hs => by rw [f2 s (by omega) (by omega), f1 s (by omega) (by omega)]))
  · exact br_t rfl (hL (Or.inl hu) T1 L1 E1 B1 m1 hM1 (fun s hs => f1 s (by omega) (by omega)))
theorem xp_replS {post : Int32 → St1 → Prop} (hS : tm_SG n A Z) (hg : sg_X (tm_sg n A Z) ay gs so) (hM : mm_M 49 86 T L m) (hg0 : 1 ≤ ng) (hg8 : ng ≤ 8) {f p : Nat} {pat : Bool} {px : Int32} (hf : f < 86) (hp : p < 86) (f1 : f ≠ 81) (f2 : f ≠ 82) (p1 : p ≠ 81) (p2 : p ≠ 82) (hpx : (pat = true ∧ ¬ px = 0) ∨ (pat = false ∧ px = 0))
    (h : ∀ T' L' E' B' m', mm_M 49 86 T' L' m' → m' 81 = (tm_R (tm_sg n A Z) pat (m (49 + 4 * (ng - 1))) (m f) (m p) 0).2.take 49 → m' 82 = (tm_R (tm_sg n A Z) pat (m (49 + 4 * (ng - 1) + 1)) (m f) (m p) 0).2.take 49 → (∀ s, s ≠ 81 → s ≠ 82 → m' s = m s) →
      post (nI ((tm_R (tm_sg n A Z) pat (m (49 + 4 * (ng - 1))) (m f) (m p) 0).1 + (tm_R (tm_sg n A Z) pat (m (49 + 4 * (ng - 1) + 1)) (m f) (m p) 0).1)) (xn, xq, xa, nI ng, T', L', ay, gs, so, E', B', pv, vl, el)) : wpX_replaceInSides post (xn, xq, xa, nI ng, T, L, ay, gs, so, E, B, pv, vl, el) (nI f) (nI p) px := by
  unfold wpX_replaceInSides
  dsimp only
  refine xp_top hg0 hg8 ?_
  refine xp_repl (t := 81) hg (tm_ar_lt hS) hM (by omega) (by omega) hf hp (by omega) f1 p1 hpx (fun T1 L1 E1 B1 hM1 => ?_)
  rw [nI_1]
  refine xp_repl (t := 82) hg (tm_ar_lt hS) hM1 (by omega) (by omega) hf hp (by omega) f2 p2 hpx (fun T2 L2 E2 B2 hM2 => ?_)
  rw [mm_set_n (m := m) (s := 81) (j := 49 + 4 * (ng - 1) + 1) (by omega), mm_set_n (m := m) (s := 81) (j := f) f1, mm_set_n (m := m) (s := 81) (j := p) p1] at hM2 ⊢
  rw [nI_add]
  refine h T2 L2 E2 B2 _ hM2 ?_ mm_set_s ?_
  · rw [mm_set_n (by omega), mm_set_s]
  · intro s s1 s2
    rw [mm_set_n s2, mm_set_n s1]
theorem xp_simp {post : Int32 → St1 → Prop} {k : Nat} (hk : k < 8) (hW : iv_W n A Z q ng hy m) (hg : sg_X (tm_sg n A Z) ay gs so) (hM : mm_M 49 86 T L m) (hg0 : 1 ≤ ng)
    (hL : tm_N (tm_sg n A Z) (iv_R m) (m (49 + 4 * (ng - 1))) = none ∨ tm_N (tm_sg n A Z) (iv_R m) (m (49 + 4 * (ng - 1) + 1)) = none → ∀ T' L' E' B' m', mm_M 49 86 T' L' m' → (∀ s, s < 81 → m' s = m s) → post (-7) (xn, xq, nI k, nI ng, T', L', ay, gs, so, E', B', pv, vl, el))
    (hO : ∀ u v T' L' E' B' m', tm_N (tm_sg n A Z) (iv_R m) (m (49 + 4 * (ng - 1))) = some u → tm_N (tm_sg n A Z) (iv_R m) (m (49 + 4 * (ng - 1) + 1)) = some v → mm_M 49 86 T' L' m' → m' (49 + 4 * (ng - 1)) = u → m' (49 + 4 * (ng - 1) + 1) = v → (∀ s, s < 81 → s ≠ 49 + 4 * (ng - 1) → s ≠ 49 + 4 * (ng - 1) + 1 → m' s = m s) →
      (u ≠ v → post (nI ng) (xn, xq, nI k, nI ng, T', L', ay, gs, so, E', B', pv, vl, el)) ∧ (u = v → ng = 1 → post 0 (xn, xq, -1, 0, T', L', ay, gs, so, E', B', upd pv k 1, vl, el)) ∧ (u = v → 1 < ng → post (nI (ng - 1)) (xn, xq, nI k, nI (ng - 1), T', L', ay, gs, so, E', B', pv, vl, el))) : wpX_simp post (xn, xq, nI k, nI ng, T, L, ay, gs, so, E, B, pv, vl, el) := by
  unfold wpX_simp
  dsimp only
  obtain ⟨hS, _, hg8, _, _, hWr, hWg⟩ := hW
  obtain ⟨⟨s, w1, w2, w3, w4, w5, w6⟩, _, _⟩ := hWg (ng - 1) (by omega)
  refine br_t (nI_pos' (by omega)) ?_
  refine xp_top hg0 hg8 ?_
  refine xp_copyText (t := 81) hM (by omega) (by omega) (by omega) (fun T1 L1 hM1 => ?_)
  rw [nI_1]
  refine xp_copyText (t := 82) hM1 (by omega) (by omega) (by omega) (fun T2 L2 hM2 => ?_)
  rw [mm_set_n (m := m) (j := 49 + 4 * (ng - 1) + 1) (by omega)] at hM2
  have e81 : mm_set (mm_set m 81 (m (49 + 4 * (ng - 1)))) 82 (m (49 + 4 * (ng - 1) + 1)) 81 = m (49 + 4 * (ng - 1)) := by rw [mm_set_n (by omega), mm_set_s]
  have e82 : mm_set (mm_set m 81 (m (49 + 4 * (ng - 1)))) 82 (m (49 + 4 * (ng - 1) + 1)) 82 = m (49 + 4 * (ng - 1) + 1) := mm_set_s
  have hfr : ∀ u, u < 81 → mm_set (mm_set m 81 (m (49 + 4 * (ng - 1)))) 82 (m (49 + 4 * (ng - 1) + 1)) u = m u := fun u hu => by rw [mm_set_n (by omega), mm_set_n (by omega)]
  have hR1 : ∀ i, i < 32 → iv_R (mm_set (mm_set m 81 (m (49 + 4 * (ng - 1)))) 82 (m (49 + 4 * (ng - 1) + 1))) i = iv_R m i := fun i hi => hfr _ (by omega)
  refine xp_settle (S1 := [s]) (S2 := [s]) hk hS (iv_RU_mono (fun _ _ h => h) hR1 hWr.1) hg hM2 hg0 hg8 ?_ ?_ ?_ ?_
  · rw [e81]
    exact fun _ => ⟨w1, iv_FC_ext (iv_eqne hR1) w3⟩
  · rw [e82]
    exact fun _ => ⟨w2, iv_FC_ext (iv_eqne hR1) w4⟩
  · rw [e81, e82, tm_N_ext hR1, tm_N_ext hR1]
    intro h T' L' E' B' m' hM' hf'
    exact hL h T' L' E' B' m' hM' (fun s hs => by rw [hf' s hs, hfr s hs])
  · rw [e81, e82, tm_N_ext hR1, tm_N_ext hR1]
    intro u v T' L' E' B' m' hu hv hM' h1 h2 hf'
    exact hO u v T' L' E' B' m' hu hv hM' h1 h2 (fun s hs s1 s2 => by rw [hf' s hs s1 s2, hfr s hs])
end XF
