/-! 14: the class: feed, the judging of rules and conjectures -/
section XE
variable {xn xq xa xg : Int32} {T L ay gs so E B pv vl el : Nat → Int32} {m : Nat → List Nat}
theorem xi_ch {c : Nat} (h : c < 65536) : ((nI c).toUInt32 % 65536).toInt32 = nI c := by
  rw [pk_char, pk_tn (by omega), Nat.mod_eq_of_lt h]
theorem xi_0a (i : Nat) : (0 : Int32) + nI i = nI (0 * 49 + i) := by
  rw [show (0 : Int32) + nI i = nI (0 + i) from nI_add 0 i, Nat.zero_mul]
theorem xl_feed {post : Int32 → St1 → Prop} {w0 w1 w2 w3 : Int32} (hM0 : mm_M 49 86 T L m)
    (h1 : (m 0).length + (fd_l (fd_b w0 w1 w2 w3) 16 0).length ≤ 48 → ∀ T' L', mm_M 49 86 T' L' (mm_set m 0 (m 0 ++ fd_l (fd_b w0 w1 w2 w3) 16 0)) → post (nI ((m 0).length + (fd_l (fd_b w0 w1 w2 w3) 16 0).length)) (xn, xq, xa, xg, T', L', ay, gs, so, E, B, pv, vl, el))
    (h0 : 48 < (m 0).length + (fd_l (fd_b w0 w1 w2 w3) 16 0).length → ∀ T', mm_M 49 86 T' L m → post (-4) (xn, xq, xa, xg, T', L, ay, gs, so, E, B, pv, vl, el)) :
    ∀ n j p T, 16 < n + j → j ≤ 16 → p ++ fd_l (fd_b w0 w1 w2 w3) (16 - j) j = fd_l (fd_b w0 w1 w2 w3) 16 0 → (m 0).length + p.length ≤ 48 → mm_M 49 86 T (upd L 0 (nI (m 0 ++ p).length)) (mm_set m 0 (m 0 ++ p)) → wX_feed_11 post w0 w1 w2 w3 xn xq xa xg n (nI (m 0 ++ p).length) (nI j) T L ay gs so E B pv vl el := by
  intro n
  induction n with
  | zero => intro j p T a b; omega
  | succ n ih =>
    intro j p T ha hb hp hl hM
    have hlen : (m 0 ++ p).length = (m 0).length + p.length := List.length_append
    have hfin : p = fd_l (fd_b w0 w1 w2 w3) 16 0 → post (nI (m 0 ++ p).length) (xn, xq, xa, xg, T, upd L 0 (nI (m 0 ++ p).length), ay, gs, so, E, B, pv, vl, el) := by
      intro e
      rw [hlen] at hM ⊢
      rw [e] at hM hl ⊢
      exact h1 hl _ _ hM
    have h52 : ∀ z0, z0 = fd_w w0 w1 w2 w3 j → j < 16 → wX_feed_52 post (wX_feed_11 post w0 w1 w2 w3 xn xq xa xg n) w0 w1 w2 w3 (nI (m 0 ++ p).length) (nI j) z0 xn xq xa xg T L ay gs so E B pv vl el := by
      intro z0 ez hj
      unfold wX_feed_52
      have hbl := fd_b_lt w0 w1 w2 w3 j
      refine nm_r (e' := nI (fd_b w0 w1 w2 w3 j)) ?_ ?_
      · rw [ez, show nI j &&& 3 = nI (j % 2 ^ 2) from pk_andN (by omega) 2 (by decide), show (8 : Int32) * nI (j % 2 ^ 2) = nI (8 * (j % 2 ^ 2)) from pk_mul 8 _]
        exact fd_b_e w0 w1 w2 w3 j
      · refine pk_eq (fd_b w0 w1 w2 w3 j) 0 (fun e => ?_) (fun e => ?_)
        · rw [fd_l_0 e, List.append_nil] at hp
          exact nm_e (hfin hp)
        · rw [show 16 - j = (16 - (j + 1)) + 1 by omega, fd_l_s e] at hp
          refine pk_lt (m 0 ++ p).length 48 (fun hlt => ?_) (fun hge => ?_)
          · rw [xi_0a, nI_clamp (n := 0 * 49 + (m 0 ++ p).length) (by omega), xi_ch (by omega)]
            refine ⟨vp_in_nI (by omega) (by omega), nm_e (nm_r (nI_1 _) (nm_r (nI_1 j) ?_))⟩
            have hP := mm_put hM (s := 0) (by omega) (n := (m 0 ++ p).length) (by rw [mm_set_s]) (by omega) hbl
            rw [mm_uu, mm_set_s, mm_set_set, List.append_assoc] at hP
            have e2 : (m 0 ++ p).length + 1 = (m 0 ++ (p ++ [fd_b w0 w1 w2 w3 j])).length := by
              rw [List.length_append, List.length_append, List.length_append, List.length_singleton]
              omega
            rw [e2] at hP ⊢
            refine ih (j + 1) (p ++ [fd_b w0 w1 w2 w3 j]) _ (by omega) (by omega) ?_ ?_ hP
            · rw [List.append_assoc]
              exact hp
            · rw [List.length_append, List.length_singleton]
              omega
          · refine h0 ?_ T ?_
            · rw [← hp, List.length_append, List.length_cons]
              omega
            · have hC := mm_cut hM (s := 0) (k := (m 0).length) (by omega) (by rw [mm_set_s]; omega)
              rw [mm_uu, mm_set_s, mm_set_set, List.take_left' rfl, mm_set_self, mm_ue (mm_len hM0 (by omega))] at hC
              exact hC
    rw [wX_feed_11]
    dsimp only
    refine pk_le 16 j (fun hge => ?_) (fun hlt => ?_)
    · have e : j = 16 := by omega
      subst e
      have e3 : p = fd_l (fd_b w0 w1 w2 w3) 16 0 := by
        rw [← hp]
        exact (List.append_nil p).symm
      exact nm_e (hfin e3)
    · refine pk_le 4 j (fun a4 => pk_le 8 j (fun a8 => pk_le 12 j (fun a12 => h52 _ ?_ hlt) (fun a12 => h52 _ ?_ hlt)) (fun a8 => h52 _ ?_ hlt)) (fun a4 => h52 _ ?_ hlt)
      · unfold fd_w
        rw [if_neg (by omega), if_neg (by omega), if_neg (by omega)]
      · unfold fd_w
        rw [if_neg (by omega), if_neg (by omega), if_pos (by omega)]
      · unfold fd_w
        rw [if_neg (by omega), if_pos (by omega)]
      · unfold fd_w
        rw [if_pos (by omega)]
theorem xp_feed {post : Int32 → St1 → Prop} {w0 w1 w2 w3 : Int32} (hM : mm_M 49 86 T L m) (h48 : (m 0).length ≤ 48)
    (h1 : (m 0).length + (fd_l (fd_b w0 w1 w2 w3) 16 0).length ≤ 48 → ∀ T' L', mm_M 49 86 T' L' (mm_set m 0 (m 0 ++ fd_l (fd_b w0 w1 w2 w3) 16 0)) → post (nI ((m 0).length + (fd_l (fd_b w0 w1 w2 w3) 16 0).length)) (xn, xq, xa, xg, T', L', ay, gs, so, E, B, pv, vl, el))
    (h0 : 48 < (m 0).length + (fd_l (fd_b w0 w1 w2 w3) 16 0).length → ∀ T', mm_M 49 86 T' L m → post (-4) (xn, xq, xa, xg, T', L, ay, gs, so, E, B, pv, vl, el)) : wpX_feed post (xn, xq, xa, xg, T, L, ay, gs, so, E, B, pv, vl, el) w0 w1 w2 w3 := by
  unfold wpX_feed
  dsimp only
  have hl := mm_len hM (s := 0) (by omega)
  refine nm_r hl ⟨17, ?_⟩
  have := xl_feed (xn := xn) (xq := xq) (xa := xa) (xg := xg) (ay := ay) (gs := gs) (so := so) (E := E) (B := B) (pv := pv) (vl := vl) (el := el) hM h1 h0 17 0 [] T (by omega) (by omega) rfl (by rw [List.length_nil]; omega) (by
    rw [List.append_nil, mm_set_self, mm_ue hl]
    exact hM)
  rw [List.append_nil] at this
  exact this
/-! rules -/
theorem xl_left {post : Int32 → Prop} (hM : mm_M 49 86 T L m) {e : Nat} (he : e ≤ (m 0).length) (hf : tm_fn (tm_at (m 0) 0)) (hk : tm_kd (tm_at (m 0) 1) ≠ none) (h1 : eq_FL (m 0) e → post 1) (h0 : ¬ eq_FL (m 0) e → post 0) :
    ∀ n i k, e - i < n → 2 ≤ i → i < 100 → (∀ j, 2 ≤ j → j < i → tm_vn (tm_at (m 0) j) ≠ none) → (∀ a b, 2 ≤ a → a < b → b < i → tm_at (m 0) a ≠ tm_at (m 0) b) → vz_S k (fun v => ∃ j, 2 ≤ j ∧ j < i ∧ tm_at (m 0) j = tm_vc v) → wX_isRuleLeft_36 post (nI e) xn xq xa xg T L ay gs so E B pv vl el n (nI k) (nI i) := by
  have hle := mm_le hM (s := 0) (by omega)
  intro n
  induction n with
  | zero => intro i k a; omega
  | succ n ih =>
    intro i k ha hb h100 hv hd hS
    rw [wX_isRuleLeft_36]
    dsimp only
    refine pk_le e i (fun hge => h1 ⟨hf, hk, fun j a b => hv j a (by omega), fun a b x y z => hd a b x y (by omega)⟩) (fun hlt => ?_)
    have hbb := mm_b hM (s := 0) (by omega) i
    refine xp_sym (s := 0) hM (by omega) (by omega) ?_
    refine xp_vnum (by omega) (fun v hvn hv16 => ?_) (fun hvn => br_t (by decide) (h0 (fun z => z.2.2.1 i hb hlt hvn)))
    obtain ⟨b0, b1⟩ := vz_S_bit hS hv16
    refine br_f (nI_pos (by omega)) ?_
    by_cases hp : ∃ j, 2 ≤ j ∧ j < i ∧ tm_at (m 0) j = tm_vc v
    · refine br_t (b1.mpr hp) (h0 (fun z => ?_))
      obtain ⟨j, j1, j2, j3⟩ := hp
      apply z.2.2.2 j i j1 j2 hlt
      rw [j3, (tm_vn_ch hvn).1]
    · refine br_f (fun z => hp (b1.mp z)) (nm_r (by rw [vz_one hv16, vz_or]) (nm_r (nI_1 i) (ih (i + 1) _ (by omega) (by omega) (by omega) ?_ ?_ (vz_S_iff ?_ (vz_S_or hS (vz_S_one hv16))))))
      · intro j j1 j2
        by_cases q : j = i
        · rw [q, hvn]
          exact Option.some_ne_none v
        · exact hv j j1 (by omega)
      · intro a b a1 a2 a3
        by_cases q : b = i
        · subst q
          intro z
          exact hp ⟨a, a1, a2, by rw [z, (tm_vn_ch hvn).1]⟩
        · exact hd a b a1 a2 (by omega)
      · intro u hu
        constructor
        · rintro (⟨j, j1, j2, j3⟩ | q)
          · exact ⟨j, j1, by omega, j3⟩
          · exact ⟨i, hb, by omega, by rw [q, (tm_vn_ch hvn).1]⟩
        · rintro ⟨j, j1, j2, j3⟩
          by_cases q : j = i
          · right
            rw [q, (tm_vn_ch hvn).1] at j3
            exact xi_vcinj hu hv16 j3.symm
          · exact Or.inl ⟨j, j1, by omega, j3⟩
theorem xp_left {post : Int32 → Prop} (hM : mm_M 49 86 T L m) {e : Nat} (he : e ≤ (m 0).length) (h1 : eq_FL (m 0) e → post 1) (h0 : ¬ eq_FL (m 0) e → post 0) : wpX_isRuleLeft post (xn, xq, xa, xg, T, L, ay, gs, so, E, B, pv, vl, el) (nI e) := by
  unfold wpX_isRuleLeft
  dsimp only
  have hle := mm_le hM (s := 0) (by omega)
  have b0 := mm_b hM (s := 0) (by omega) 0
  have b1 := mm_b hM (s := 0) (by omega) 1
  refine xp_sym (s := 0) (i := 0) hM (by omega) (by omega) ?_
  refine xp_sym (s := 0) (i := 1) hM (by omega) (by omega) ?_
  refine xp_isf (by omega) (fun hf => br_f (by decide) ?_) (fun hf => br_t rfl (h0 (fun z => hf z.1)))
  refine xp_kind (by omega) (fun k hk => ?_) (fun hk => br_f (by decide) (h0 (fun z => z.2.1 hk)))
  have hk2 : k < 2 := by
    have := tm_kd_c hk
    omega
  refine br_t (nI_pos' (by omega)) ⟨e + 1, xl_left hM he hf (by rw [hk]; exact Option.some_ne_none k) h1 h0 _ 2 0 (by omega) (by omega) (by omega) (fun j a b => by omega) (fun a b x y z => by omega) (vz_S_iff ?_ vz_S_0)⟩
  intro v _
  exact ⟨fun z => z.elim, fun ⟨j, j1, j2, _⟩ => by omega⟩
theorem xp_recv {post : Int32 → Prop} (hM : mm_M 49 86 T L m) (h : post (nI (eq_rc (m 0)))) : wpX_recursionVariable post (xn, xq, xa, xg, T, L, ay, gs, so, E, B, pv, vl, el) := by
  unfold wpX_recursionVariable
  dsimp only
  have b1 := mm_b hM (s := 0) (by omega) 1
  have b2 := mm_b hM (s := 0) (by omega) 2
  have b3 := mm_b hM (s := 0) (by omega) 3
  unfold eq_rc at h
  refine xp_sym (s := 0) (i := 1) hM (by omega) (by omega) ?_
  refine pk_eq (tm_at (m 0) 1) 83 (fun e => ?_) (fun e => pk_eq (tm_at (m 0) 1) 67 (fun e2 => ?_) (fun e2 => ?_))
  · rw [if_pos e] at h
    exact xp_sym (s := 0) (i := 2) hM (by omega) (by omega) ⟨(pk_charN (by omega)).1, h⟩
  · rw [if_neg e, if_pos e2] at h
    exact xp_sym (s := 0) (i := 3) hM (by omega) (by omega) ⟨(pk_charN (by omega)).1, h⟩
  · rw [if_neg e, if_neg e2] at h
    exact h
theorem eq_rc_lt {W N : Nat} {T L : Nat → Int32} {m : Nat → List Nat} (hM : mm_M W N T L m) {s : Nat} (hs : s < N) : eq_rc (m s) < 256 := by
  unfold eq_rc
  have b2 := mm_b hM hs 2
  have b3 := mm_b hM hs 3
  split
  · exact b2
  · split
    · exact b3
    · decide
theorem xl_r131 {post : Int32 → Prop} {J : Int32 → Prop} {x4 x5 x6 x9 z0 : Int32} {c : Nat} (hc : c < 65536) (hJ : ¬ tm_fn c ∨ ¬ x9 = 0 ∨ ¬ z0 = 0 → J (x6 + 1)) (h0 : tm_fn c → x9 = 0 → z0 = 0 → post 0) : wX_isRuleRight_131 post J x4 x5 x6 (nI c) x9 z0 xn xq xa xg T L ay gs so E B pv vl el := by
  unfold wX_isRuleRight_131
  refine xp_isf hc (fun hf => br_f (by decide) (br_c (fun e => br_c (fun e2 => h0 hf e e2) (fun e2 => nm_e (hJ (Or.inr (Or.inr e2))))) (fun e => nm_e (hJ (Or.inr (Or.inl e)))))) (fun hf => br_t rfl (nm_e (hJ (Or.inl hf))))
theorem xl_r107 {post : Int32 → Prop} {J : Int32 → Prop} {x5 x6 z0 : Int32} (hM : mm_M 49 86 T L m) {c f : Nat} (hc : c < 65536) (hf : f < 65536) (hJ : ¬ tm_fn c ∨ ¬ z0 = 0 ∨ (c < f ∧ tm_cp (iv_R m) c) → J (x6 + 1)) (h0 : tm_fn c → z0 = 0 → ¬ (c < f ∧ tm_cp (iv_R m) c) → post 0) : wX_isRuleRight_107 post J (nI f) x5 x6 (nI c) z0 xn xq xa xg T L ay gs so E B pv vl el := by
  unfold wX_isRuleRight_107 wX_isRuleRight_130
  have hno : ¬ (c < f ∧ tm_cp (iv_R m) c) → wX_isRuleRight_131 post J (nI f) x5 x6 (nI c) z0 0 xn xq xa xg T L ay gs so E B pv vl el := by
    intro hn
    refine xl_r131 hc (fun h => ?_) (fun h1 h2 _ => h0 h1 h2 hn)
    rcases h with h | h | h
    · exact hJ (Or.inl h)
    · exact hJ (Or.inr (Or.inl h))
    · exact absurd rfl h
  refine pk_le f c (fun hge => hno (fun z => by omega)) (fun hlt => ?_)
  refine xp_rcount hM hc (fun hfn => ?_) (fun hfn => br_f (by decide) (xl_r131 hc (fun h => hJ (Or.inl hfn)) (fun h1 _ _ => absurd h1 hfn)))
  have hle := rc_le (iv_R m) c
  refine pk_eq (rc_n (iv_R m) c) 2 (fun e => ?_) (fun e => hno (fun z => e (rc_2.mpr z.2)))
  exact xl_r131 hc (fun _ => hJ (Or.inr (Or.inr ⟨hlt, rc_2.mp e⟩))) (fun _ _ z => absurd z (by decide))
theorem xl_right {post : Int32 → Prop} (hM : mm_M 49 86 T L m) {e : Nat} (h1 : eq_FF (iv_R m) (m 0) e → post 1) (h0 : ¬ eq_FF (iv_R m) (m 0) e → post 0) :
    ∀ n i, (m 0).length - i < n → e < i → i < 100 → (∀ j, e < j → j < i → eq_F1 (iv_R m) (m 0) j) → wX_isRuleRight_52 post (nI (tm_at (m 0) 0)) (nI (eq_rc (m 0))) xn xq xa xg T L ay gs so E B pv vl el n (nI i) := by
  have hle := mm_le hM (s := 0) (by omega)
  have b0 := mm_b hM (s := 0) (by omega) 0
  have brc := eq_rc_lt hM (s := 0) (by omega)
  intro n
  induction n with
  | zero => intro i a; omega
  | succ n ih =>
    intro i ha hb h100 hF
    rw [wX_isRuleRight_52]
    dsimp only
    rw [mm_len hM (by omega : (0 : Nat) < 86)]
    refine pk_le (m 0).length i (fun hge => h1 (fun j a b => hF j a (by omega))) (fun hlt => ?_)
    have bi := mm_b hM (s := 0) (by omega) i
    have bj := mm_b hM (s := 0) (by omega) (i + 1)
    have hJ : eq_F1 (iv_R m) (m 0) i → wX_isRuleRight_52 post (nI (tm_at (m 0) 0)) (nI (eq_rc (m 0))) xn xq xa xg T L ay gs so E B pv vl el n (nI i + 1) := by
      intro hf
      rw [nI_1]
      refine ih (i + 1) (by omega) (by omega) (by omega) (fun j a b => ?_)
      by_cases q : j = i
      · rw [q]; exact hf
      · exact hF j a (by omega)
    have hN : ¬ eq_F1 (iv_R m) (m 0) i → post 0 := fun hn => h0 (fun z => hn (z i hb hlt))
    have h106 : ¬ (tm_at (m 0) i = tm_at (m 0) 0 ∧ eq_rc (m 0) ≠ 0 ∧ tm_at (m 0) (i + 1) = eq_rc (m 0)) → wX_isRuleRight_107 post (wX_isRuleRight_52 post (nI (tm_at (m 0) 0)) (nI (eq_rc (m 0))) xn xq xa xg T L ay gs so E B pv vl el n) (nI (tm_at (m 0) 0)) (nI (eq_rc (m 0))) (nI i) (nI (tm_at (m 0) i)) 0 xn xq xa xg T L ay gs so E B pv vl el := by
      intro hn
      refine xl_r107 hM (by omega) (by omega) (fun h => hJ (fun hf => ?_)) (fun hf _ hc => hN (fun z => ?_))
      · rcases h with h | h | h
        · exact absurd hf h
        · exact absurd rfl h
        · exact Or.inl h
      · rcases z hf with z | z
        · exact hc z
        · exact hn z
    refine xp_sym (s := 0) hM (by omega) (by omega) ?_
    rw [nI_1 i]
    refine xp_sym (s := 0) hM (by omega) (by omega) ?_
    refine pk_eq (tm_at (m 0) i) (tm_at (m 0) 0) (fun q1 => pk_eq (eq_rc (m 0)) 0 (fun q2 => ?_) (fun q2 => pk_eq (tm_at (m 0) (i + 1)) (eq_rc (m 0)) (fun q3 => ?_) (fun q3 => ?_))) (fun q1 => ?_)
    · exact h106 (fun z => z.2.1 q2)
    · exact xl_r107 hM (by omega) (by omega) (fun _ => hJ (fun _ => Or.inr ⟨q1, q2, q3⟩)) (fun _ z _ => absurd z (by decide))
    · exact h106 (fun z => q3 z.2.2)
    · exact h106 (fun z => q1 z.1)
theorem xi_FV {w : List Nat} {e : Nat} (he : e < w.length) : (∀ v, v < 16 → tm_vc v ∈ (w.take w.length).drop (e + 1) → tm_vc v ∈ (w.take e).drop 0) ↔ eq_FV w e := by
  rw [mm_tl (Nat.le_refl _), List.drop_zero]
  constructor
  · intro h i h1 h2 h3
    obtain ⟨v, hv⟩ := Option.ne_none_iff_exists'.mp h3
    obtain ⟨hc, hv16⟩ := tm_vn_ch hv
    have hm : tm_vc v ∈ w.drop (e + 1) := by
      rw [← hc, show i = e + 1 + (i - (e + 1)) by omega, ← tm_at_drop]
      exact tm_at_mem (by rw [List.length_drop]; omega)
    obtain ⟨j, hj, q⟩ := tm_mem_at (h v hv16 hm)
    rw [List.length_take] at hj
    rw [tm_at_take (by omega)] at q
    exact ⟨j, by omega, by rw [q, hc]⟩
  · intro h v hv16 hm
    obtain ⟨i, hi, q⟩ := tm_mem_at hm
    rw [List.length_drop] at hi
    rw [tm_at_drop] at q
    obtain ⟨j, hj, q2⟩ := h (e + 1 + i) (by omega) (by omega) (by rw [q, tm_vn_vc hv16]; exact Option.some_ne_none v)
    rw [← q, ← q2, ← tm_at_take (w := w) hj]
    exact tm_at_mem (by rw [List.length_take]; omega)
theorem xp_right {post : Int32 → Prop} (hM : mm_M 49 86 T L m) {e : Nat} (he : e < (m 0).length) (h1 : eq_FV (m 0) e → eq_FF (iv_R m) (m 0) e → post 1) (h0 : ¬ (eq_FV (m 0) e ∧ eq_FF (iv_R m) (m 0) e) → post 0) : wpX_isRuleRight post (xn, xq, xa, xg, T, L, ay, gs, so, E, B, pv, vl, el) (nI e) := by
  unfold wpX_isRuleRight
  dsimp only
  have hle := mm_le hM (s := 0) (by omega)
  refine xp_vars (s := 0) (start := 0) hM (by omega) (by omega) (by omega) (fun k1 s1 => ?_)
  rw [nI_1 e, mm_len hM (by omega : (0 : Nat) < 86)]
  refine xp_vars (s := 0) hM (by omega) (Nat.le_refl _) (by omega) (fun k2 s2 => ?_)
  have hd := (vz_diff s2 s1).trans (xi_FV he)
  by_cases hv : eq_FV (m 0) e
  · refine br_t (hd.mpr hv) ?_
    refine xp_sym (s := 0) (i := 0) hM (by omega) (by omega) ?_
    refine xp_recv hM ?_
    refine nm_e ⟨(m 0).length + 1, xl_right hM (h1 hv) (fun z => h0 (fun y => z y.2)) _ (e + 1) (by omega) (by omega) (by omega) (fun j a b => by omega)⟩
  · exact br_f (fun z => hv (hd.mp z)) (h0 (fun z => hv z.1))
theorem xp_bslot {post : Int32 → Prop} (hM : mm_M 49 86 T L m) {k : Nat} (hf : tm_fn (tm_at (m 0) 0)) (hk : tm_kd (tm_at (m 0) 1) = some k) (h : post (nI (17 + (4 * (tm_at (m 0) 0 - 70) + 2 * k)))) : wpX_bufferRuleSlot post (xn, xq, xa, xg, T, L, ay, gs, so, E, B, pv, vl, el) := by
  unfold wpX_bufferRuleSlot
  dsimp only
  have b1 := mm_b hM (s := 0) (by omega) 1
  refine xp_sym (s := 0) (i := 0) hM (by omega) (by omega) ?_
  refine xp_sym (s := 0) (i := 1) hM (by omega) (by omega) ?_
  unfold wpX_ruleSlot
  refine xp_kind (by omega) (fun k' hk' => ?_) (fun hk' => by rw [hk] at hk'; cases hk')
  rw [hk] at hk'
  obtain rfl := Option.some.inj hk'
  rw [xi_slot hf, show (2 : Int32) * nI k = nI (2 * k) from pk_mul 2 k, nI_add, Nat.add_assoc]
  exact h
theorem xp_judgeR {post : Int32 → Prop} (hM : mm_M 49 86 T L m) {e : Nat} (he : e < (m 0).length) (hF : ¬ eq_F (iv_R m) (m 0) e → post (-2)) (hD : ∀ k, eq_F (iv_R m) (m 0) e → tm_kd (tm_at (m 0) 1) = some k → iv_R m (4 * (tm_at (m 0) 0 - 70) + 2 * k) ≠ [] → post (-3))
    (hO : ∀ k, eq_F (iv_R m) (m 0) e → tm_kd (tm_at (m 0) 1) = some k → iv_R m (4 * (tm_at (m 0) 0 - 70) + 2 * k) = [] → post 0) : wpX_judgeRule post (xn, xq, xa, xg, T, L, ay, gs, so, E, B, pv, vl, el) (nI e) := by
  unfold wpX_judgeRule
  dsimp only
  have hle := mm_le hM (s := 0) (by omega)
  refine br_t (nI_pos' (by omega)) ?_
  refine xp_left hM (by omega) (fun hL => br_f (by decide) ?_) (fun hL => br_t rfl (hF (fun z => hL z.1)))
  refine xp_right hM he (fun hV hFF => br_f (by decide) ?_) (fun hn => br_t rfl (hF (fun z => hn z.2)))
  obtain ⟨k, hk⟩ := Option.ne_none_iff_exists'.mp hL.2.1
  have hk2 : k < 2 := by
    have := tm_kd_c hk
    omega
  have hf : tm_fn (tm_at (m 0) 0) := hL.1
  have hs : 17 + (4 * (tm_at (m 0) 0 - 70) + 2 * k) < 86 := by omega
  have hl2 := mm_le hM hs
  refine xp_bslot hM hf hk ⟨vp_in_nI hs (by omega), ?_⟩
  rw [nI_clamp (n := 17 + (4 * (tm_at (m 0) 0 - 70) + 2 * k)) (by omega), mm_len hM hs]
  refine pk_le (m (17 + (4 * (tm_at (m 0) 0 - 70) + 2 * k))).length 0 (fun z => hO k ⟨hL, hV, hFF⟩ hk (List.eq_nil_of_length_eq_zero (show (m (17 + (4 * (tm_at (m 0) 0 - 70) + 2 * k))).length = 0 by omega))) (fun z => hD k ⟨hL, hV, hFF⟩ hk (fun y => ?_))
  have y' : (m (17 + (4 * (tm_at (m 0) 0 - 70) + 2 * k))).length = 0 := congrArg List.length y
  omega
theorem xl_judgeC {post : Int32 → Prop} {q : Nat} (hq : q ≤ 8) (hM : mm_M 49 86 T L m) (hF : ¬ tm_FC (iv_R m) (m 0) → post (-2)) (hU : tm_FC (iv_R m) (m 0) → q = 8 → post (-4)) (hO : tm_FC (iv_R m) (m 0) → q < 8 → post 0) :
    ∀ n i, (m 0).length - i < n → i ≤ (m 0).length → (∀ j, j < i → tm_fn (tm_at (m 0) j) → tm_cp (iv_R m) (tm_at (m 0) j)) → wX_judgeConjecture_8 post xn (nI q) xa xg T L ay gs so E B pv vl el n (nI i) := by
  have hle := mm_le hM (s := 0) (by omega)
  intro n
  induction n with
  | zero => intro i a; omega
  | succ n ih =>
    intro i ha hb hj
    rw [wX_judgeConjecture_8]
    dsimp only
    rw [mm_len hM (by omega : (0 : Nat) < 86)]
    refine pk_le (m 0).length i (fun hge => ?_) (fun hlt => ?_)
    · have hFC : tm_FC (iv_R m) (m 0) := by
        intro c hc hf
        obtain ⟨j, hj2, rfl⟩ := tm_mem_at hc
        exact hj j (by omega) hf
      exact pk_lt q 8 (fun z => hO hFC z) (fun z => hU hFC (by omega))
    · have bi := mm_b hM (s := 0) (by omega) i
      have hnext : (tm_fn (tm_at (m 0) i) → tm_cp (iv_R m) (tm_at (m 0) i)) → wX_judgeConjecture_8 post xn (nI q) xa xg T L ay gs so E B pv vl el n (nI i + 1) := by
        intro hf
        rw [nI_1]
        refine ih (i + 1) (by omega) (by omega) (fun j h2 => ?_)
        by_cases z : j = i
        · rw [z]; exact hf
        · exact hj j (by omega)
      refine xp_sym (s := 0) hM (by omega) (by omega) ?_
      refine xp_isf (by omega) (fun hf => br_f (by decide) ?_) (fun hf => br_t rfl (nm_e (hnext (fun z => absurd z hf))))
      have hrc := rc_le (iv_R m) (tm_at (m 0) i)
      refine xp_rcount hM (by omega) (fun _ => ?_) (fun z => absurd hf z)
      refine pk_le 2 (rc_n (iv_R m) (tm_at (m 0) i)) (fun z => nm_e (hnext (fun _ => rc_2.mp (by omega)))) (fun z => hF (fun hFC => ?_))
      have := rc_2.mpr (hFC _ (tm_at_mem hlt) hf)
      omega
theorem xp_judgeC {post : Int32 → Prop} {q e : Nat} (hq : q ≤ 8) (hM : mm_M 49 86 T L m) (he : e < (m 0).length) (hF : ¬ tm_FC (iv_R m) (m 0) → post (-2)) (hU : tm_FC (iv_R m) (m 0) → q = 8 → post (-4)) (hO : tm_FC (iv_R m) (m 0) → q < 8 → post 0) : wpX_judgeConjecture post (xn, nI q, xa, xg, T, L, ay, gs, so, E, B, pv, vl, el) (nI e) := by
  unfold wpX_judgeConjecture
  dsimp only
  have hle := mm_le hM (s := 0) (by omega)
  refine br_t (nI_pos' (by omega)) ⟨(m 0).length + 1, xl_judgeC hq hM hF hU hO _ 0 (by omega) (Nat.zero_le _) (fun j a => absurd a (Nat.not_lt_zero _))⟩
end XE
