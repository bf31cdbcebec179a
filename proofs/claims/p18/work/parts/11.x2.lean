/-! 11: the class: sets of variables, sorts, equations -/
section XB
variable {xn xq xa xg : Int32} {T L ay gs so E B pv vl el : Nat → Int32} {m : Nat → List Nat} {g : tm_G}
theorem xi_vcinj {u v : Nat} (hu : u < 16) (hv : v < 16) (h : tm_vc u = tm_vc v) : u = v := by
  have h1 := tm_vn_vc hu
  rw [h, tm_vn_vc hv] at h1
  exact (Option.some.inj h1).symm
theorem xi_dt {w : List Nat} {start i : Nat} (h : start ≤ i) (hi : i < w.length) : (w.take (i + 1)).drop start = (w.take i).drop start ++ [tm_at w i] := by
  rw [← mm_snoc hi, List.drop_append_of_le_length (by rw [List.length_take]; omega)]
theorem xl_vars {post : Int32 → Prop} (hM : mm_M 49 86 T L m) {s stop start : Nat} (hs : s < 86) (hstop : stop ≤ (m s).length) (h : ∀ k, vz_S k (fun v => tm_vc v ∈ ((m s).take stop).drop start) → post (nI k)) :
    ∀ n i k, stop < n + i → start ≤ i → i ≤ stop → vz_S k (fun v => tm_vc v ∈ ((m s).take i).drop start) → wX_variablesIn_6 post (nI s) (nI stop) xn xq xa xg T L ay gs so E B pv vl el n (nI k) (nI i) := by
  have hle := mm_le hM hs
  intro n
  induction n with
  | zero => intro i k h1 h2 h3; omega
  | succ n ih =>
    intro i k h1 h2 h3 hk
    rw [wX_variablesIn_6]
    refine pk_le stop i (fun hge => ?_) (fun hlt => ?_)
    · have e : i = stop := by omega
      subst e
      exact h k hk
    · have hb := mm_b hM hs i
      refine xp_sym hM hs (by omega) ?_
      refine xp_vnum (by omega) (fun v hv hv16 => ?_) (fun hv => ?_)
      · refine br_f (nI_pos (by omega)) (nm_r (by rw [vz_one hv16, vz_or]) (nm_r (nI_1 i) ?_))
        refine ih (i + 1) (k ||| 2 ^ v) (by omega) (by omega) (by omega) (vz_S_iff ?_ (vz_S_or hk (vz_S_one hv16)))
        intro u hu
        rw [xi_dt h2 (by omega), List.mem_append, List.mem_singleton, (tm_vn_ch hv).1]
        constructor
        · rintro (a | a)
          · exact Or.inl a
          · exact Or.inr (by rw [a])
        · rintro (a | a)
          · exact Or.inl a
          · exact Or.inr (xi_vcinj hu hv16 a)
      · refine br_t (by decide) (nm_r (nI_1 i) ?_)
        refine ih (i + 1) k (by omega) (by omega) (by omega) (vz_S_iff ?_ hk)
        intro u hu
        rw [xi_dt h2 (by omega), List.mem_append, List.mem_singleton]
        constructor
        · exact fun a => Or.inl a
        · rintro (a | a)
          · exact a
          · rw [← a, tm_vn_vc hu] at hv
            cases hv
theorem xp_vars {post : Int32 → Prop} (hM : mm_M 49 86 T L m) {s stop start : Nat} (hs : s < 86) (hstop : stop ≤ (m s).length) (hst : start ≤ stop) (h : ∀ k, vz_S k (fun v => tm_vc v ∈ ((m s).take stop).drop start) → post (nI k)) : wpX_variablesIn post (xn, xq, xa, xg, T, L, ay, gs, so, E, B, pv, vl, el) (nI s) (nI start) (nI stop) := by
  unfold wpX_variablesIn
  dsimp only
  refine ⟨stop + 1, xl_vars hM hs hstop h (stop + 1) start 0 (by omega) (Nat.le_refl _) hst (vz_S_iff ?_ vz_S_0)⟩
  intro v _
  rw [List.drop_take_self]
  exact ⟨fun z => z.elim, fun z => (nomatch z)⟩
theorem xp_varsOf {post : Int32 → Prop} (hM : mm_M 49 86 T L m) {s : Nat} (hs : s < 86) (h : ∀ k, vz_S k (fun v => tm_vc v ∈ m s) → post (nI k)) : wpX_variablesOf post (xn, xq, xa, xg, T, L, ay, gs, so, E, B, pv, vl, el) (nI s) := by
  unfold wpX_variablesOf
  dsimp only
  rw [nI_clamp (n := s) (by omega), mm_len hM hs]
  refine ⟨vp_in_nI hs (by omega), ?_⟩
  refine xp_vars (start := 0) hM hs (Nat.le_refl _) (Nat.zero_le _) (fun k hk => h k ?_)
  rw [mm_tl (Nat.le_refl _), List.drop_zero] at hk
  exact hk
theorem xi_sh : ∀ a, a < 4 → (((nI a).toInt64 &&& 63).toBitVec.smod 64).toNat = a := by decide +kernel
theorem xi_p48 {S : List Nat} (hB : so_B S) (hl : S.length ≤ 49) : so_num S < 2 ^ 49 := Nat.lt_of_lt_of_le (so_lt S hB) (Nat.pow_le_pow_right (by decide) hl)
theorem xl_sort45 {post : Int32 → Prop} {J : Int64 → Int32 → Int32 → Prop} {x1 x2 : Int32} {n : Nat} {A : Nat → List Nat} {Z : Nat → Nat} (hS : tm_SG n A Z) (hg : sg_X (tm_sg n A Z) ay gs so) {c j : Nat} {S : List Nat} (hc : c < 256) (hB : so_B S) (hl : S.length ≤ 48) (hj : j < 2 ^ 30)
    (hok : ∀ a s, tm_sg n A Z c = some (a, s) → S.take a.length = a → so_B (s :: S.drop a.length) → J (lN (so_num (s :: S.drop a.length))) (nI (s :: S.drop a.length).length) (nI j - 1)) (hno : (∀ a s, tm_sg n A Z c = some (a, s) → S.take a.length ≠ a) → post (-1)) :
    wX_termSort_45 post J x1 x2 (lN (so_num S)) (nI S.length) (nI j) (nI c) (ay c) xn xq xa xg T L ay gs so E B pv vl el := by
  unfold wX_termSort_45
  have hn := xi_p48 hB (by omega)
  cases e : tm_sg n A Z c with
  | none =>
    rw [(hg c hc).2 e]
    refine br_t (by decide) (hno ?_)
    intro a s h
    rw [e] at h
    cases h
  | some p =>
    obtain ⟨a, s⟩ := p
    obtain ⟨h1, h2, h3⟩ := (hg c hc).1 a s e
    obtain ⟨b1, b2, b3, _, _⟩ := tm_sg_b hS e
    have hna := so_lt a b2
    have hpw : 2 ^ a.length ≤ 2 ^ 3 := Nat.pow_le_pow_right (by decide) b1
    rw [h1]
    refine br_f (nI_pos (by omega)) ?_
    rw [nI_clamp (n := c) (by omega), h2, h3]
    refine pk_le a.length S.length (fun hle => ?_) (fun hgt => ?_)
    · obtain ⟨t1, t2⟩ := so_td S a.length hle hB
      refine nm_r (e' := lN (so_num (S.take a.length))) ?_ ⟨vp_in_nI hc (by omega), ?_⟩
      · rw [show (1 : Int64) <<< ((nI a.length).toInt64 &&& 63) = lN (1 * 2 ^ a.length) from wb_shl 1 (by omega), Nat.one_mul, show lN (2 ^ a.length) - 1 = lN (2 ^ a.length - 1) from lN_sub (b := 1) (Nat.two_pow_pos _), wb_mask (by omega) (by omega), t1]
      · have hnt : so_num (S.take a.length) < 2 ^ 3 := by
          rw [← t1]
          exact Nat.lt_of_lt_of_le (Nat.mod_lt _ (Nat.two_pow_pos _)) hpw
        rw [nI_l (n := so_num a) (by omega), nI_l (n := s) (by omega)]
        by_cases q : S.take a.length = a
        · refine br_t (by rw [q]) ⟨vp_in_nI hc (by omega), ?_⟩
          have hBn : so_B (s :: S.drop a.length) := so_B_mk b3 (so_B_drop hB _)
          have hdl : so_num (S.drop a.length) ≤ so_num S := by
            rw [← t2]
            exact Nat.div_le_self _ _
          refine nm_r (e' := lN (so_num (s :: S.drop a.length))) ?_ (nm_r (e' := nI (s :: S.drop a.length).length) ?_ (nm_r (e' := nI j - 1) ?_ (hok a s e q hBn)))
          · rw [pf_shr (xi_sh _ (by omega)) (by omega), t2, show lN (so_num (S.drop a.length)) <<< ((1 : Int32).toInt64 &&& 63) = lN (so_num (S.drop a.length) * 2 ^ 1) from wb_shl (k := 1) _ (by decide), g_or (k := 1) (p := 2 ^ 1) rfl (by omega) (by omega), so_num_cons]
            exact congrArg lN (by omega)
          · rw [List.length_cons, List.length_drop]
            rw [show nI (S.length - a.length + 1) = nI S.length + nI 1 - nI a.length by rw [nI_add, pk_sub (by omega)]; exact congrArg nI (by omega)]
            show nI S.length + (nI 1 - nI a.length) = _
            rw [Int32.sub_eq_add_neg, Int32.sub_eq_add_neg, Int32.add_assoc]
          · rw [Int32.sub_eq_add_neg]
        · refine br_f ?_ (hno ?_)
          · intro z
            apply q
            rw [lN_eq (by omega) (by omega)] at z
            exact so_inj _ _ (by rw [List.length_take]; omega) (fun x hx => hB x (List.mem_of_mem_take hx)) b2 z
          · intro a2 s2 z2
            rw [e] at z2
            obtain ⟨rfl, rfl⟩ := Prod.mk.inj (Option.some.inj z2)
            exact q
    · refine hno ?_
      intro a2 s2 z2
      rw [e] at z2
      obtain ⟨rfl, rfl⟩ := Prod.mk.inj (Option.some.inj z2)
      intro z
      have := congrArg List.length z
      rw [List.length_take] at this
      omega
theorem xl_sort {post : Int32 → Prop} {n : Nat} {A : Nat → List Nat} {Z : Nat → Nat} (hS : tm_SG n A Z) (hg : sg_X (tm_sg n A Z) ay gs so) (hM : mm_M 49 86 T L m) {s start stop : Nat} (hs : s < 86) (hstop : stop ≤ (m s).length) (h48 : stop ≤ 48) (hst : start ≤ stop + 1)
    (h1 : ∀ sv, tm_ts (tm_sg n A Z) (((m s).take stop).drop start) = some sv → post (nI sv)) (h0 : tm_ts (tm_sg n A Z) (((m s).take stop).drop start) = none → post (-1)) :
    ∀ k j S, j < k → j ≤ stop → (start ≤ j ∨ j = stop) → so_B S → S.length ≤ stop - j → tm_bk (tm_sg n A Z) (((m s).take stop).drop j) = some S → wX_termSort_11 post (nI s) (nI start) xn xq xa xg T L ay gs so E B pv vl el k (lN (so_num S)) (nI S.length) (nI j - 1) := by
  intro k
  induction k with
  | zero => intro j S hj; omega
  | succ k ih =>
    intro j S hj hjs hjj hB hl hb
    rw [wX_termSort_11]
    have hlt : ((m s).take stop).length = stop := by rw [List.length_take]; omega
    by_cases hend : j ≤ start
    · refine br_t ((xi_pl (by omega) (by omega)).mpr hend) ?_
      have e : ((m s).take stop).drop start = ((m s).take stop).drop j := by
        by_cases q : j = start
        · rw [q]
        · rw [List.drop_eq_nil_of_le (by omega), List.drop_eq_nil_of_le (by omega)]
      rw [e] at h1 h0
      have hn := xi_p48 hB (by omega)
      refine pk_eq S.length 1 (fun h => ?_) (fun h => ?_)
      · obtain ⟨a, rfl⟩ := List.length_eq_one_iff.mp h
        rw [lN_i, so_one]
        apply h1
        exact tm_ts_P.mpr ((tm_bk_P _ _).mp hb)
      · apply h0
        apply tm_ts_no
        intro sv hP
        have := (tm_bk_P _ _).mpr hP
        rw [hb] at this
        rw [Option.some.inj this] at h
        exact h rfl
    · refine br_f (by rw [xi_pl (by omega) (by omega)]; exact hend) ?_
      obtain ⟨i, rfl⟩ : ∃ i, j = i + 1 := ⟨j - 1, by omega⟩
      rw [xi_m1']
      have hbb := mm_b hM hs i
      refine xp_sym hM hs (by omega) ?_
      refine br_f (nI_ge (b := 256) hbb (by decide)) ⟨vp_in_nI hbb (by omega), ?_⟩
      rw [nI_clamp (n := tm_at (m s) i) (by omega)]
      have hat : ((m s).take stop).drop i = tm_at (m s) i :: ((m s).take stop).drop (i + 1) := by
        rw [tm_drop_cons (by omega), tm_at_take (by omega)]
      refine xl_sort45 hS hg hbb hB (by omega) (by omega) ?_ ?_
      · intro a sv hga htk hBn
        refine ih i _ (by omega) (by omega) (by omega) hBn ?_ ?_
        · rw [List.length_cons, List.length_drop]
          omega
        · rw [hat, tm_bk, hb]
          dsimp only
          rw [hga]
          dsimp only
          rw [if_pos htk]
      · intro hno
        apply h0
        apply tm_ts_no
        intro sv hP
        have hd : ((((m s).take stop).drop start).drop (i - start)) = ((m s).take stop).drop i := by
          rw [List.drop_drop]
          exact congrArg (fun z => List.drop z _) (by omega)
        obtain ⟨S2, hP2⟩ := tm_P_drop _ _ hP (i - start)
        rw [hd, hat] at hP2
        obtain ⟨a, s2, S3, hga, rfl, hP3⟩ := hP2
        have hb2 := (tm_bk_P _ _).mpr hP3
        rw [hb] at hb2
        apply hno a s2 hga
        rw [Option.some.inj hb2, List.take_left' rfl]
theorem xp_sort {post : Int32 → Prop} {n : Nat} {A : Nat → List Nat} {Z : Nat → Nat} (hS : tm_SG n A Z) (hg : sg_X (tm_sg n A Z) ay gs so) (hM : mm_M 49 86 T L m) {s start stop : Nat} (hs : s < 86) (hstop : stop ≤ (m s).length) (h48 : stop ≤ 48) (hst : start ≤ stop + 1)
    (h1 : ∀ sv, tm_ts (tm_sg n A Z) (((m s).take stop).drop start) = some sv → post (nI sv)) (h0 : tm_ts (tm_sg n A Z) (((m s).take stop).drop start) = none → post (-1)) : wpX_termSort post (xn, xq, xa, xg, T, L, ay, gs, so, E, B, pv, vl, el) (nI s) (nI start) (nI stop) := by
  unfold wpX_termSort
  dsimp only
  refine nm_e ⟨stop + 1, xl_sort hS hg hM hs hstop h48 hst h1 h0 (stop + 1) stop [] (by omega) (Nat.le_refl _) (Or.inr rfl) (fun x hx => nomatch hx) (Nat.zero_le _) ?_⟩
  rw [List.drop_eq_nil_of_le (by rw [List.length_take]; omega)]
  rfl
theorem xl_feq31 {post : Int32 → Prop} {n : Nat} {A : Nat → List Nat} {Z : Nat → Nat} (hS : tm_SG n A Z) (hg : sg_X (tm_sg n A Z) ay gs so) (hM : mm_M 49 86 T L m) (h48 : (m 0).length ≤ 48)
    (h1 : ∀ e, eq_Q (tm_sg n A Z) (m 0) e → post (nI e)) (h0 : (∀ e, ¬ eq_Q (tm_sg n A Z) (m 0) e) → post (-1)) {e : Nat} (he : e ≤ (m 0).length) (h61 : e < (m 0).length → tm_at (m 0) e = 61) (hbe : ∀ j, j < e → tm_at (m 0) j ≠ 61) : wX_findEquation_31 post (nI e) xn xq xa xg T L ay gs so E B pv vl el := by
  unfold wX_findEquation_31
  have g61 : tm_sg n A Z 61 = none := eq_sym hS.1
  have hfail : (∀ s, ¬ (tm_P (tm_sg n A Z) [s] ((m 0).take e) ∧ tm_P (tm_sg n A Z) [s] ((m 0).drop (e + 1)))) → post (-1) := by
    intro hn
    apply h0
    intro e' hQ
    have hQ2 := hQ
    obtain ⟨q1, q2, s, q3, q4⟩ := hQ2
    have hge : e ≤ e' := Nat.le_of_not_lt (fun z => hbe e' z q2)
    have hee : e = e' := eq_Q_only g61 hQ (by omega) (h61 (by omega))
    rw [← hee] at q3 q4
    exact hn s ⟨q3, q4⟩
  refine xp_sort (start := 0) (s := 0) hS hg hM (by omega) he (by omega) (by omega) (fun s1 t1 => ?_) (fun t1 => ?_)
  · rw [List.drop_zero] at t1
    show wpX_termSort _ _ 0 (nI e + 1) (L 0)
    rw [nI_1, mm_len hM (by omega : (0 : Nat) < 86)]
    refine xp_sort (s := 0) hS hg hM (by omega) (Nat.le_refl _) h48 (by omega) (fun s2 t2 => ?_) (fun t2 => ?_)
    · rw [mm_tl (Nat.le_refl _)] at t2
      have p1 := tm_ts_P.mp t1
      have p2 := tm_ts_P.mp t2
      have b1 : s1 < 2 := by
        obtain ⟨a, s, S', hga, hSS, _⟩ := (tm_P_suf p1 (i := 0) (tm_P_ne p1))
        have := tm_P_uniq _ _ _ (show tm_P _ (s :: S') ((m 0).take e) from by rw [List.drop_zero] at hSS; exact hSS) p1
        obtain ⟨rfl, _⟩ := List.cons.inj this
        exact (tm_sg_b hS hga).2.2.1
      have b2 : s2 < 2 := by
        obtain ⟨a, s, S', hga, hSS, _⟩ := (tm_P_suf p2 (i := 0) (tm_P_ne p2))
        have := tm_P_uniq _ _ _ (show tm_P _ (s :: S') ((m 0).drop (e + 1)) from by rw [List.drop_zero] at hSS; exact hSS) p2
        obtain ⟨rfl, _⟩ := List.cons.inj this
        exact (tm_sg_b hS hga).2.2.1
      refine br_f (nI_pos (by omega)) (pk_eq s1 s2 (fun q => ?_) (fun q => ?_))
      · subst q
        apply h1
        have hlen := tm_P_ne p2
        rw [List.length_drop] at hlen
        exact ⟨by omega, h61 (by omega), s1, p1, p2⟩
      · apply hfail
        intro s ⟨r1, r2⟩
        have q1 := tm_P_uniq _ _ _ r1 p1
        have q2 := tm_P_uniq _ _ _ r2 p2
        exact q (by rw [← (List.cons.inj q1).1, (List.cons.inj q2).1])
    · rw [mm_tl (Nat.le_refl _)] at t2
      have hf : post (-1) := by
        apply hfail
        intro s ⟨r1, r2⟩
        rw [tm_ts_P.mpr r2] at t2
        cases t2
      by_cases q : nI s1 < 0
      · exact br_t q hf
      · refine br_f q ?_
        by_cases q2 : nI s1 = -1
        · rw [q2] at q
          exact absurd (by decide) q
        · exact br_f q2 hf
  · rw [List.drop_zero] at t1
    have hf : post (-1) := by
      apply hfail
      intro s ⟨r1, r2⟩
      rw [tm_ts_P.mpr r1] at t1
      cases t1
    show wpX_termSort _ _ 0 (nI e + 1) (L 0)
    rw [nI_1, mm_len hM (by omega : (0 : Nat) < 86)]
    exact xp_sort (s := 0) hS hg hM (by omega) (Nat.le_refl _) h48 (by omega) (fun s2 t2 => br_t (by decide) hf) (fun t2 => br_t (by decide) hf)
theorem xl_feq {post : Int32 → Prop} {n : Nat} {A : Nat → List Nat} {Z : Nat → Nat} (hS : tm_SG n A Z) (hg : sg_X (tm_sg n A Z) ay gs so) (hM : mm_M 49 86 T L m) (h48 : (m 0).length ≤ 48)
    (h1 : ∀ e, eq_Q (tm_sg n A Z) (m 0) e → post (nI e)) (h0 : (∀ e, ¬ eq_Q (tm_sg n A Z) (m 0) e) → post (-1)) : ∀ k i, (m 0).length < k + i → i ≤ (m 0).length → (∀ j, j < i → tm_at (m 0) j ≠ 61) → wX_findEquation_2 post xn xq xa xg T L ay gs so E B pv vl el k (nI i) := by
  intro k
  induction k with
  | zero => intro i a b; omega
  | succ k ih =>
    intro i ha hb hj
    rw [wX_findEquation_2]
    rw [mm_len hM (by omega : (0 : Nat) < 86)]
    refine pk_le (m 0).length i (fun hge => ?_) (fun hlt => ?_)
    · exact xl_feq31 hS hg hM h48 h1 h0 hb (fun z => by omega) hj
    · have hT := mm_t hM (s := 0) (by omega) hlt
      have hbb := mm_b hM (s := 0) (by omega) i
      rw [show (0 : Int32) + nI i = nI (0 * 49 + i) from by rw [show (0 : Int32) + nI i = nI (0 + i) from nI_add 0 i], nI_clamp (by omega), hT]
      refine ⟨vp_in_nI (by omega) (by omega), pk_eq (tm_at (m 0) i) 61 (fun q => ?_) (fun q => ?_)⟩
      · exact xl_feq31 hS hg hM h48 h1 h0 hb (fun _ => q) hj
      · refine nm_r (nI_1 i) (ih (i + 1) (by omega) (by omega) ?_)
        intro j hj2
        by_cases e : j = i
        · rw [e]; exact q
        · exact hj j (by omega)
theorem xp_feq {post : Int32 → Prop} {n : Nat} {A : Nat → List Nat} {Z : Nat → Nat} (hS : tm_SG n A Z) (hg : sg_X (tm_sg n A Z) ay gs so) (hM : mm_M 49 86 T L m) (h48 : (m 0).length ≤ 48)
    (h1 : ∀ e, eq_Q (tm_sg n A Z) (m 0) e → post (nI e)) (h0 : (∀ e, ¬ eq_Q (tm_sg n A Z) (m 0) e) → post (-1)) : wpX_findEquation post (xn, xq, xa, xg, T, L, ay, gs, so, E, B, pv, vl, el) := by
  unfold wpX_findEquation
  dsimp only
  exact ⟨(m 0).length + 1, xl_feq hS hg hM h48 h1 h0 _ 0 (by omega) (Nat.zero_le _) (fun j hj => absurd hj (Nat.not_lt_zero _))⟩
end XB
