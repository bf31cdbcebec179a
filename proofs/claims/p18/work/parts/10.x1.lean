/-! 10: the class: symbols, appending, copying -/
section XA
variable {xn xq xa xg : Int32} {T L ay gs so E B pv vl el : Nat → Int32} {m : Nat → List Nat}
theorem xi_ix (s i : Nat) : nI s * 49 + nI i = nI (s * 49 + i) := by
  rw [show (49 : Int32) = nI 49 from rfl, pk_mul, nI_add]
theorem xi_nar {c : Nat} (h : c < 65536) : vp_nar .char (nI c) = nI c := by
  unfold vp_nar
  rw [(pk_charN h).1]
theorem xi_pl {j k : Nat} (hj : j < 2 ^ 30) (hk : k < 2 ^ 30) : nI j - 1 < nI k ↔ j ≤ k := by
  rw [Int32.lt_iff_toInt_lt, show (1 : Int32) = nI 1 from rfl, pk_sub_toInt hj (by omega), nI_toInt (by omega)]
  omega
theorem xi_pl0 {j : Nat} (hj : j < 2 ^ 30) : nI j - 1 < 0 ↔ j = 0 := by
  have := xi_pl (j := j) (k := 0) hj (by omega)
  rw [nI_0] at this
  rw [this]
  omega
theorem xi_m1 {j : Nat} (h : 0 < j) : nI j - 1 = nI (j - 1) := pk_sub (b := 1) h
theorem xi_m1' (j : Nat) : nI (j + 1) - 1 = nI j := nI_pred j
theorem xi_neg {n : Nat} (h : n < 2 ^ 31) : ¬ nI n = -1 := by
  intro z
  have h1 := congrArg Int32.toInt z
  rw [nI_toInt h, show (-1 : Int32).toInt = -1 from by decide] at h1
  omega
theorem xp_sym {post : Int32 → Prop} (hM : mm_M 49 86 T L m) {s i : Nat} (hs : s < 86) (hi : i < 2 ^ 31) (h : post (nI (tm_at (m s) i))) : wpX_symbolAt post (xn, xq, xa, xg, T, L, ay, gs, so, E, B, pv, vl, el) (nI s) (nI i) := by
  unfold wpX_symbolAt
  dsimp only
  have hl := mm_len hM hs
  have hle := mm_le hM hs
  refine br_f (nI_pos hi) ⟨vp_in_nI hs (by omega), ?_⟩
  rw [nI_clamp (n := s) (by omega), hl]
  refine pk_lt i (m s).length (fun hlt => ?_) (fun hge => ?_)
  · rw [xi_ix, nI_clamp (by omega), mm_t hM hs hlt]
    have := mm_b hM hs i
    exact ⟨vp_in_nI (by omega) (by omega), (pk_charN (by omega)).1, h⟩
  · rw [tm_at_ge hge] at h
    exact h
theorem xp_symn {post : Int32 → Prop} {x y : Int32} (hi : y < 0) (h : post 0) : wpX_symbolAt post (xn, xq, xa, xg, T, L, ay, gs, so, E, B, pv, vl, el) x y := by
  unfold wpX_symbolAt
  dsimp only
  exact br_t hi h
theorem xp_append {post : St1 → Prop} (hM : mm_M 49 86 T L m) {s c : Nat} (hs : s < 86) (hc : c < 256) (h : ∀ T' L', mm_M 49 86 T' L' (mm_set m s ((m s ++ [c]).take 49)) → post (xn, xq, xa, xg, T', L', ay, gs, so, E, B, pv, vl, el)) : wpX_append post (xn, xq, xa, xg, T, L, ay, gs, so, E, B, pv, vl, el) (nI s) (nI c) := by
  unfold wpX_append
  dsimp only
  have hl := mm_len hM hs
  have hle := mm_le hM hs
  rw [nI_clamp (n := s) (by omega), hl]
  refine ⟨vp_in_nI hs (by omega), nm_e ?_⟩
  refine pk_le 49 (m s).length (fun hge => ?_) (fun hlt => ?_)
  · apply h
    rw [List.take_append_of_le_length hge, mm_tl hle, mm_set_self]
    exact hM
  · rw [xi_ix, nI_clamp (by omega), nI_1, xi_nar (by omega)]
    refine ⟨vp_in_nI (by omega) (by omega), nm_e ⟨vp_in_nI hs (by omega), nm_e ?_⟩⟩
    apply h
    rw [mm_tl (by rw [List.length_append, List.length_singleton]; omega)]
    exact mm_put hM hs rfl hlt hc
theorem xl_copySpan {post : St1 → Prop} {t s stop : Nat} (ht : t < 86) (hs : s < 86) (hts : s ≠ t) (hstop : stop ≤ (m s).length) : ∀ (n i : Nat) (T : Nat → Int32) (m' : Nat → List Nat), stop < n + i → i ≤ stop → m' s = m s → mm_M 49 86 T (upd L t (nI (m' t).length)) m' →
    (∀ T' L', mm_M 49 86 T' L' (mm_set m' t ((m' t ++ ((m s).drop i).take (stop - i)).take 49)) → post (xn, xq, xa, xg, T', L', ay, gs, so, E, B, pv, vl, el)) → wX_copySpan_11 post (nI t) (nI s) (nI stop) xn xq xa xg n (nI (m' t).length) (nI i) T L ay gs so E B pv vl el := by
  intro n
  induction n with
  | zero => intro i T m' h1 h2; omega
  | succ n ih =>
    intro i T m' h1 h2 hms hM h
    have hle := mm_le hM ht
    have hls := mm_le hM hs
    rw [hms] at hls
    rw [wX_copySpan_11]
    rw [nI_clamp (n := t) (by omega)]
    refine pk_le stop i (fun hge => ?_) (fun hlt => ?_)
    · refine ⟨vp_in_nI ht (by omega), nm_e ?_⟩
      apply h
      rw [show stop - i = 0 by omega, List.take_zero, List.append_nil, mm_tl hle, mm_set_self]
      exact hM
    · refine pk_le 49 (m' t).length (fun hge => ?_) (fun hl2 => ?_)
      · refine ⟨vp_in_nI ht (by omega), nm_e ?_⟩
        apply h
        rw [List.take_append_of_le_length hge, mm_tl hle, mm_set_self]
        exact hM
      · have hb := mm_b hM hs i
        have hT := mm_t hM hs (i := i) (by rw [hms]; omega)
        rw [hms] at hb hT
        rw [xi_ix, xi_ix, nI_clamp (n := s * 49 + i) (by omega), nI_clamp (n := t * 49 + (m' t).length) (by omega), hT, xi_nar (by omega), nI_1, nI_1]
        refine ⟨vp_in_nI (by omega) (by omega), vp_in_nI (by omega) (by omega), nm_e (nm_e (nm_e ?_))⟩
        have hP := mm_put hM ht rfl hl2 hb
        rw [mm_uu] at hP
        have e1 : (mm_set m' t (m' t ++ [tm_at (m s) i]) t).length = (m' t).length + 1 := by
          rw [mm_set_s, List.length_append, List.length_singleton]
        rw [← e1]
        refine ih (i + 1) _ _ (by omega) (by omega) ?_ ?_ ?_
        · rw [mm_set_n hts, hms]
        · rw [e1]
          exact hP
        · intro T' L' hM'
          apply h
          rw [mm_set_s, mm_set_set] at hM'
          rw [show ((m s).drop i).take (stop - i) = tm_at (m s) i :: ((m s).drop (i + 1)).take (stop - (i + 1)) by
            rw [tm_drop_cons (by omega), show stop - i = (stop - (i + 1)) + 1 by omega, List.take_succ_cons]]
          rw [List.append_assoc] at hM'
          exact hM'
theorem xp_copySpan {post : St1 → Prop} (hM : mm_M 49 86 T L m) {t s start stop : Nat} (ht : t < 86) (hs : s < 86) (hts : s ≠ t) (hstop : stop ≤ (m s).length) (hst : start ≤ stop) (h : ∀ T' L', mm_M 49 86 T' L' (mm_set m t ((m t ++ ((m s).drop start).take (stop - start)).take 49)) → post (xn, xq, xa, xg, T', L', ay, gs, so, E, B, pv, vl, el)) : wpX_copySpan post (xn, xq, xa, xg, T, L, ay, gs, so, E, B, pv, vl, el) (nI t) (nI s) (nI start) (nI stop) := by
  unfold wpX_copySpan
  dsimp only
  have hl := mm_len hM ht
  rw [nI_clamp (n := t) (by omega)]
  refine ⟨vp_in_nI ht (by omega), nm_r hl ?_⟩
  refine ⟨stop + 1, xl_copySpan (m := m) ht hs hts hstop (stop + 1) start T m (by omega) hst rfl ?_ h⟩
  rw [mm_ue hl]
  exact hM
theorem xp_copyText {post : St1 → Prop} (hM : mm_M 49 86 T L m) {t s : Nat} (ht : t < 86) (hs : s < 86) (hts : s ≠ t) (h : ∀ T' L', mm_M 49 86 T' L' (mm_set m t (m s)) → post (xn, xq, xa, xg, T', L', ay, gs, so, E, B, pv, vl, el)) : wpX_copyText post (xn, xq, xa, xg, T, L, ay, gs, so, E, B, pv, vl, el) (nI s) (nI t) := by
  unfold wpX_copyText
  dsimp only
  have h0 := mm_nil hM ht
  have hl := mm_len h0 hs
  rw [mm_set_n hts] at hl
  have hle := mm_le hM hs
  rw [nI_clamp (n := t) (by omega)]
  refine ⟨vp_in_nI ht (by omega), nm_e ⟨vp_in_nI hs (by omega), ?_⟩⟩
  rw [nI_clamp (n := s) (by omega), hl]
  refine xp_copySpan h0 (start := 0) ht hs hts (by rw [mm_set_n hts]; exact Nat.le_refl _) (Nat.zero_le _) ?_
  intro T' L' hM'
  apply h
  rw [mm_set_s, mm_set_set, List.nil_append, mm_set_n hts, List.drop_zero, Nat.sub_zero, mm_tl (Nat.le_refl _), mm_tl hle] at hM'
  exact hM'
/-! what a symbol is -/
theorem xp_vnum {post : Int32 → Prop} {c : Nat} (hc : c < 65536) (h1 : ∀ v, tm_vn c = some v → v < 16 → post (nI v)) (h0 : tm_vn c = none → post (-1)) : wpX_variableNumber post () (nI c) := by
  unfold wpX_variableNumber wX_variableNumber_17
  have hb : ∀ (_ : ¬ (97 ≤ c ∧ c ≤ 104)), (nI c < 112 → post (-1)) ∧ (¬ nI c < 112 → (119 < nI c → post (-1)) ∧ (¬ 119 < nI c → post (nI c - 112 + 8))) := by
    intro hn
    refine pk_lt c 112 (fun a => h0 ?_) (fun a => pk_lt 119 c (fun b => h0 ?_) (fun b => ?_))
    · unfold tm_vn
      rw [if_neg hn, if_neg (by omega)]
    · unfold tm_vn
      rw [if_neg hn, if_neg (by omega)]
    · rw [show nI c - 112 + 8 = nI (c - 104) by
        rw [show nI c - 112 = nI (c - 112) from pk_sub (b := 112) a, show nI (c - 112) + 8 = nI (c - 112 + 8) from nI_add _ 8, show c - 112 + 8 = c - 104 by omega]]
      refine h1 (c - 104) ?_ (by omega)
      unfold tm_vn
      rw [if_neg hn, if_pos (by omega)]
  refine pk_lt c 97 (fun a => hb (by omega)) (fun a => pk_lt 104 c (fun b => hb (by omega)) (fun b => ?_))
  rw [show nI c - 97 = nI (c - 97) from pk_sub (b := 97) a]
  refine h1 (c - 97) ?_ (by omega)
  unfold tm_vn
  rw [if_pos (by omega)]
theorem xp_kind {post : Int32 → Prop} {c : Nat} (hc : c < 65536) (h1 : ∀ k, tm_kd c = some k → post (nI k)) (h0 : tm_kd c = none → post (-1)) : wpX_constructorKind post () (nI c) := by
  unfold wpX_constructorKind
  refine pk_eq c 90 (fun a => h1 0 ?_) (fun a => pk_eq c 78 (fun b => h1 0 ?_) (fun b => pk_eq c 83 (fun d => h1 1 ?_) (fun d => pk_eq c 67 (fun e => h1 1 ?_) (fun e => h0 ?_))))
  · rw [a]; rfl
  · rw [b]; rfl
  · rw [d]; rfl
  · rw [e]; rfl
  · unfold tm_kd
    rw [if_neg (by omega), if_neg (by omega)]
theorem xp_isf {post : Int32 → Prop} {c : Nat} (hc : c < 65536) (h1 : tm_fn c → post 1) (h0 : ¬ tm_fn c → post 0) : wpX_isFunction post () (nI c) := by
  unfold wpX_isFunction
  exact pk_lt c 70 (fun a => h0 (by omega)) (fun a => pk_lt 77 c (fun b => h0 (by omega)) (fun b => h1 (by omega)))
theorem xp_letter {post : Int32 → Prop} {v : Nat} (hv : v < 16) (h : post (nI (tm_vc v))) : wpX_variableLetter post () (nI v) := by
  unfold wpX_variableLetter
  have key : ∀ (x : Int32) (c : Nat), x = nI c → c < 256 → post (nI c) → (narrow .char (.int (x.toUInt32 % 65536).toInt32) = .int (x.toUInt32 % 65536).toInt32 ∧ post (x.toUInt32 % 65536).toInt32) := by
    intro x c e hc hp
    have e2 : (x.toUInt32 % 65536).toInt32 = nI c := by
      rw [pk_char, e, pk_tn (by omega), Nat.mod_eq_of_lt (by omega)]
    rw [e2]
    exact ⟨(pk_charN (by omega)).1, hp⟩
  unfold tm_vc at h
  refine pk_le 8 v (fun a => ?_) (fun a => ?_)
  · rw [if_neg (by omega)] at h
    refine (key _ (104 + v) ?_ (by omega) h).2
    rw [show (112 : Int32) + nI v = nI (112 + v) from nI_add 112 v, show nI (112 + v) - 8 = nI (112 + v - 8) from pk_sub (b := 8) (by omega), show 112 + v - 8 = 104 + v by omega]
  · rw [if_pos (by omega)] at h
    exact (key _ (97 + v) (nI_add 97 v) (by omega) h).2
end XA
