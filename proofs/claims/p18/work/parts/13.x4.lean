/-! 13: the class: rules, fresh variables, NORMALIZE -/
section XD
variable {xn xq xa xg : Int32} {T L ay gs so E B pv vl el : Nat → Int32} {m : Nat → List Nat} {g : tm_G}
def rc_n (R : Nat → List Nat) (c : Nat) : Nat := (if R (4 * (c - 70)) = [] then 0 else 1) + (if R (4 * (c - 70) + 2) = [] then 0 else 1)
theorem rc_2 {R : Nat → List Nat} {c : Nat} : rc_n R c = 2 ↔ tm_cp R c := by
  unfold rc_n tm_cp
  by_cases h1 : R (4 * (c - 70)) = []
  · rw [if_pos h1]
    constructor
    · intro h
      split at h <;> omega
    · exact fun h => absurd h1 h.1
  · rw [if_neg h1]
    by_cases h2 : R (4 * (c - 70) + 2) = []
    · rw [if_pos h2]
      exact ⟨fun h => absurd h (by decide), fun h => absurd h2 h.2⟩
    · rw [if_neg h2]
      exact ⟨fun _ => ⟨h1, h2⟩, fun _ => rfl⟩
theorem rc_le (R : Nat → List Nat) (c : Nat) : rc_n R c ≤ 2 := by
  unfold rc_n
  split <;> split <;> omega
theorem xi_slot {c : Nat} (h : tm_fn c) : (17 : Int32) + 4 * (nI c - 70) = nI (17 + 4 * (c - 70)) := by
  rw [show nI c - 70 = nI (c - 70) from pk_sub (b := 70) h.1, show (4 : Int32) * nI (c - 70) = nI (4 * (c - 70)) from pk_mul 4 _]
  exact nI_add 17 _
theorem xp_single {post : Int32 → Prop} (hM : mm_M 49 86 T L m) {s : Nat} (hs : s < 86) (h1 : (m s).length = 1 → tm_vn (tm_at (m s) 0) ≠ none → post 1) (h0 : ¬ ((m s).length = 1 ∧ tm_vn (tm_at (m s) 0) ≠ none) → post 0) : wpX_isSingleVariable post (xn, xq, xa, xg, T, L, ay, gs, so, E, B, pv, vl, el) (nI s) := by
  unfold wpX_isSingleVariable
  dsimp only
  have hb := mm_b hM hs 0
  have hle := mm_le hM hs
  refine xp_sym (i := 0) hM hs (by omega) ?_
  rw [nI_clamp (n := s) (by omega), mm_len hM hs]
  refine ⟨vp_in_nI hs (by omega), pk_eq (m s).length 1 (fun e => ?_) (fun e => h0 (fun z => e z.1))⟩
  refine xp_vnum (by omega) (fun v hv hv16 => br_f (nI_pos (by omega)) (h1 e (by rw [hv]; exact Option.some_ne_none v))) (fun hv => br_t (by decide) (h0 (fun z => z.2 hv)))
theorem xp_rcount {post : Int32 → Prop} (hM : mm_M 49 86 T L m) {c : Nat} (hc : c < 65536) (h1 : tm_fn c → post (nI (rc_n (iv_R m) c))) (h0 : ¬ tm_fn c → post 0) : wpX_ruleCount post (xn, xq, xa, xg, T, L, ay, gs, so, E, B, pv, vl, el) (nI c) := by
  unfold wpX_ruleCount
  dsimp only
  refine xp_isf hc (fun hf => br_f (by decide) ?_) (fun hf => br_t rfl (h0 hf))
  rw [xi_slot hf]
  refine nm_e ⟨vp_in_nI (by omega) (by omega), ?_⟩
  have e1 : 17 + 4 * (c - 70) < 86 := by omega
  have l1 := mm_le hM e1
  have e2 : 17 + (4 * (c - 70) + 2) < 86 := by omega
  have l2 := mm_le hM e2
  rw [nI_clamp (n := 17 + 4 * (c - 70)) (by omega), mm_len hM e1]
  have h33 : ∀ k : Nat, k < 2 → (k = if iv_R m (4 * (c - 70)) = [] then 0 else 1) → wX_ruleCount_33 post (nI (17 + 4 * (c - 70))) (nI k) xn xq xa xg T L ay gs so E B pv vl el := by
    intro k hk ek
    unfold wX_ruleCount_33
    rw [show nI (17 + 4 * (c - 70)) + 2 = nI (17 + (4 * (c - 70) + 2)) from by rw [← Nat.add_assoc]; exact nI_add _ 2]
    rw [nI_clamp (n := 17 + (4 * (c - 70) + 2)) (by omega), mm_len hM e2]
    refine ⟨vp_in_nI e2 (by omega), pk_le (m (17 + (4 * (c - 70) + 2))).length 0 (fun z => ?_) (fun z => ?_)⟩
    · have hr : rc_n (iv_R m) c = k + 0 := by
        unfold rc_n
        rw [← ek, if_pos (show iv_R m (4 * (c - 70) + 2) = [] from List.eq_nil_of_length_eq_zero (show (m (17 + (4 * (c - 70) + 2))).length = 0 by omega))]
      have := h1 hf
      rw [hr, ← nI_add] at this
      exact this
    · have hr : rc_n (iv_R m) c = k + 1 := by
        unfold rc_n
        rw [← ek, if_neg (show ¬ iv_R m (4 * (c - 70) + 2) = [] from fun y => by
          have y' : (m (17 + (4 * (c - 70) + 2))).length = 0 := congrArg List.length y
          omega)]
      have := h1 hf
      rw [hr, ← nI_add] at this
      exact this
  refine pk_le (m (17 + 4 * (c - 70))).length 0 (fun z => h33 0 (by omega) ?_) (fun z => h33 1 (by omega) ?_)
  · rw [if_pos (show iv_R m (4 * (c - 70)) = [] from List.eq_nil_of_length_eq_zero (show (m (17 + 4 * (c - 70))).length = 0 by omega))]
  · rw [if_neg (show ¬ iv_R m (4 * (c - 70)) = [] from fun y => by
      have y' : (m (17 + 4 * (c - 70))).length = 0 := congrArg List.length y
      omega)]
theorem xp_top {post : Int32 → Prop} {ng : Nat} (h0 : 1 ≤ ng) (h8 : ng ≤ 8) (h : post (nI (49 + 4 * (ng - 1)))) : wpX_topGoal post (xn, xq, xa, nI ng, T, L, ay, gs, so, E, B, pv, vl, el) := by
  unfold wpX_topGoal
  dsimp only
  refine br_f (nI_nle (by omega) (by omega)) ?_
  rw [xi_m1 h0, show (4 : Int32) * nI (ng - 1) = nI (4 * (ng - 1)) from pk_mul 4 _, show (49 : Int32) + nI (4 * (ng - 1)) = nI (49 + 4 * (ng - 1)) from nI_add 49 _]
  exact h
def fr_l (p : Nat → Prop) (lo v : Nat) : Prop := lo ≤ v ∧ v < lo + 8 ∧ ¬ p v ∧ ∀ u, lo ≤ u → u < v → p u
theorem fr_u {p : Nat → Prop} {lo v v' : Nat} (h : fr_l p lo v) (h' : fr_l p lo v') : v = v' := by
  apply Nat.le_antisymm
  · apply Nat.le_of_not_lt
    intro z
    exact h'.2.2.1 (h.2.2.2 v' h'.1 z)
  · apply Nat.le_of_not_lt
    intro z
    exact h.2.2.1 (h'.2.2.2 v h.1 z)
theorem xl_fresh {post : Int32 → Prop} {k lo : Nat} {p : Nat → Prop} (hk : vz_S k p) (hlo : lo ≤ 8) (h1 : ∀ v, fr_l p lo v → post (nI v)) (h0 : (∀ v, lo ≤ v → v < lo + 8 → p v) → post (-1)) : ∀ n v, lo + 8 < n + v → lo ≤ v → v ≤ lo + 8 → (∀ u, lo ≤ u → u < v → p u) → wX_freshVariable_51 post (nI k) (nI lo) xn xq xa xg T L ay gs so E B pv vl el n (nI v) := by
  intro n
  induction n with
  | zero => intro v a b c; omega
  | succ n ih =>
    intro v a b c hu
    rw [wX_freshVariable_51]
    dsimp only
    rw [show nI lo + 8 = nI (lo + 8) from nI_add lo 8]
    refine pk_le (lo + 8) v (fun hge => h0 (fun u u1 u2 => hu u u1 (by omega))) (fun hlt => ?_)
    obtain ⟨b0, b1⟩ := vz_S_bit hk (v := v) (by omega)
    by_cases hp : p v
    · refine br_f (fun z => b0.mp z hp) (nm_r (nI_1 v) (ih (v + 1) (by omega) (by omega) (by omega) ?_))
      intro u u1 u2
      by_cases e : u = v
      · rw [e]; exact hp
      · exact hu u u1 (by omega)
    · exact br_t (b0.mpr hp) (h1 v ⟨b, hlt, hp, hu⟩)
theorem xp_fresh {post : Int32 → Prop} (hM : mm_M 49 86 T L m) {ng sv : Nat} (hg0 : 1 ≤ ng) (hg8 : ng ≤ 8) (hsv : sv < 2) (h1 : ∀ v, fr_l (fun v => tm_vc v ∈ m (49 + 4 * (ng - 1)) ∨ tm_vc v ∈ m (49 + 4 * (ng - 1) + 1) ∨ tm_vc v ∈ m (49 + 4 * (ng - 1) + 2) ∨ tm_vc v ∈ m (49 + 4 * (ng - 1) + 3)) (8 * sv) v → post (nI v))
    (h0 : (∀ v, 8 * sv ≤ v → v < 8 * sv + 8 → tm_vc v ∈ m (49 + 4 * (ng - 1)) ∨ tm_vc v ∈ m (49 + 4 * (ng - 1) + 1) ∨ tm_vc v ∈ m (49 + 4 * (ng - 1) + 2) ∨ tm_vc v ∈ m (49 + 4 * (ng - 1) + 3)) → post (-1)) : wpX_freshVariable post (xn, xq, xa, nI ng, T, L, ay, gs, so, E, B, pv, vl, el) (nI sv) := by
  unfold wpX_freshVariable
  dsimp only
  refine xp_top hg0 hg8 ?_
  refine xp_varsOf hM (by omega) (fun k1 s1 => ?_)
  rw [show nI (49 + 4 * (ng - 1)) + 1 = nI (49 + 4 * (ng - 1) + 1) from nI_1 _]
  refine xp_varsOf hM (by omega) (fun k2 s2 => ?_)
  rw [show nI (49 + 4 * (ng - 1)) + 2 = nI (49 + 4 * (ng - 1) + 2) from nI_add _ 2]
  refine xp_varsOf hM (by omega) (fun k3 s3 => ?_)
  rw [show nI (49 + 4 * (ng - 1)) + 3 = nI (49 + 4 * (ng - 1) + 3) from nI_add _ 3]
  refine xp_varsOf hM (by omega) (fun k4 s4 => ?_)
  refine nm_r (show ((nI k1 ||| nI k2) ||| nI k3) ||| nI k4 = nI (((k1 ||| k2) ||| k3) ||| k4) by rw [vz_or, vz_or, vz_or]) ?_
  have hk := vz_S_iff (q := fun v => tm_vc v ∈ m (49 + 4 * (ng - 1)) ∨ tm_vc v ∈ m (49 + 4 * (ng - 1) + 1) ∨ tm_vc v ∈ m (49 + 4 * (ng - 1) + 2) ∨ tm_vc v ∈ m (49 + 4 * (ng - 1) + 3)) (fun v _ => by
    constructor
    · rintro (((a | a) | a) | a)
      · exact Or.inl a
      · exact Or.inr (Or.inl a)
      · exact Or.inr (Or.inr (Or.inl a))
      · exact Or.inr (Or.inr (Or.inr a))
    · rintro (a | a | a | a)
      · exact Or.inl (Or.inl (Or.inl a))
      · exact Or.inl (Or.inl (Or.inr a))
      · exact Or.inl (Or.inr a)
      · exact Or.inr a) (vz_S_or (vz_S_or (vz_S_or s1 s2) s3) s4)
  have e : sv = 0 ∨ sv = 1 := by omega
  rcases e with rfl | rfl
  · exact br_t rfl ⟨9, xl_fresh (lo := 0) hk (by omega) h1 h0 9 0 (by omega) (by omega) (by omega) (fun u a b => absurd b (Nat.not_lt_zero _))⟩
  · exact br_f (by decide) ⟨9, xl_fresh (lo := 8) hk (by omega) h1 h0 9 8 (by omega) (by omega) (by omega) (fun u a b => absurd b (by omega))⟩
theorem tm_rx_last {w : List Nat} {n : Nat} (h : w.length = n + 1) : tm_rx w (n + 1) = tm_rx w n := by
  rw [tm_rx, if_neg]
  intro z
  have := tm_rd_lt z
  omega
theorem xl_redex {post : Int32 → Prop} (hM : mm_M 49 86 T L m) {s : Nat} (hs : s < 86) : ∀ n j, j < n → j ≤ (m s).length → (∀ i, tm_rx (m s) j = some i → post (nI i)) → (tm_rx (m s) j = none → post (-1)) → wX_lastRedex_9 post (nI s) xn xq xa xg T L ay gs so E B pv vl el n (nI j - 1) := by
  have hle := mm_le hM hs
  intro n
  induction n with
  | zero => intro j a; omega
  | succ n ih =>
    intro j a b h1 h0
    rw [wX_lastRedex_9]
    dsimp only
    by_cases hz : j = 0
    · subst hz
      exact br_t (by decide) (h0 rfl)
    · obtain ⟨i, rfl⟩ : ∃ i, j = i + 1 := ⟨j - 1, by omega⟩
      rw [xi_m1']
      rw [tm_rx] at h1 h0
      have b1 := mm_b hM hs i
      have b2 := mm_b hM hs (i + 1)
      have hnext : ¬ tm_rd (m s) i → wX_lastRedex_9 post (nI s) xn xq xa xg T L ay gs so E B pv vl el n (nI i + (-1)) := by
        intro hn
        rw [if_neg hn] at h1 h0
        rw [← Int32.sub_eq_add_neg]
        exact ih i (by omega) (by omega) h1 h0
      refine br_f (nI_pos (by omega)) ?_
      refine xp_sym hM hs (by omega) ?_
      rw [nI_1]
      refine xp_sym hM hs (by omega) ?_
      refine xp_isf (by omega) (fun hf => br_f (by decide) ?_) (fun hf => br_t rfl (nm_e (hnext (fun z => hf z.1))))
      refine xp_kind (by omega) (fun k hk => ?_) (fun hk => br_t (by decide) (nm_e (hnext (fun z => z.2 hk))))
      have hk2 : k < 2 := by
        have := tm_kd_c hk
        omega
      have hr : tm_rd (m s) i := ⟨hf, by rw [hk]; exact Option.some_ne_none k⟩
      rw [if_pos hr] at h1
      exact br_f (nI_pos (by omega)) (h1 i rfl)
theorem xp_redex {post : Int32 → Prop} (hM : mm_M 49 86 T L m) {s : Nat} (hs : s < 86) (h1 : ∀ i, tm_rx (m s) (m s).length = some i → post (nI i)) (h0 : tm_rx (m s) (m s).length = none → post (-1)) : wpX_lastRedex post (xn, xq, xa, xg, T, L, ay, gs, so, E, B, pv, vl, el) (nI s) := by
  unfold wpX_lastRedex
  dsimp only
  have hle := mm_le hM hs
  rw [nI_clamp (n := s) (by omega), mm_len hM hs]
  refine ⟨vp_in_nI hs (by omega), ?_⟩
  by_cases hz : (m s).length = 0
  · rw [hz] at h1 h0 ⊢
    refine nm_e ⟨1, ?_⟩
    rw [wX_lastRedex_9]
    dsimp only
    exact br_t (by decide) (h0 rfl)
  · obtain ⟨k, hk⟩ : ∃ k, (m s).length = k + 1 := ⟨(m s).length - 1, by omega⟩
    rw [hk, tm_rx_last hk] at h1 h0
    rw [hk]
    refine nm_r (e' := nI k - 1) ?_ ⟨k + 1, xl_redex hM hs (k + 1) k (by omega) (by omega) h1 h0⟩
    rw [← nI_1 k, Int32.sub_eq_add_neg, Int32.sub_eq_add_neg, Int32.add_assoc, show (1 : Int32) + -2 = -1 from by decide]
theorem xl_st {w x : List Nat} {a e : Nat} (y : List Nat) (h : e ≤ w.length) : ((((([] : List Nat) ++ (w.drop 0).take (a - 0)).take 49 ++ y).take 49) ++ (w.drop e).take (w.length - e)).take 49 = (w.take a ++ (y ++ w.drop e)).take 49 := by
  rw [List.drop_zero, Nat.sub_zero, List.nil_append, mm_tt, List.append_assoc, mm_tt, mm_tl (x := w.drop e) (by rw [List.length_drop]; omega)]
theorem xl_norm {post : Int32 → St1 → Prop} (hG : tm_GS g) (hR : tm_RU g (iv_R m)) (hg : sg_X g ay gs so) (h3 : ∀ c, tm_ar g c < 2 ^ 30) {s : Nat} (hs : s < 83) (hs2 : 81 ≤ s) {S : List Nat} {o : Option (List Nat)}
    (h1 : ∀ w', o = some w' → ∀ T' L' E' B' m', mm_M 49 86 T' L' m' → m' s = w' → (∀ u, u ≠ s → u ≠ 83 → m' u = m u) → post 1 (xn, xq, xa, xg, T', L', ay, gs, so, E', B', pv, vl, el))
    (h0 : o = none → ∀ T' L' E' B' m', mm_M 49 86 T' L' m' → (∀ u, u ≠ s → u ≠ 83 → m' u = m u) → post 0 (xn, xq, xa, xg, T', L', ay, gs, so, E', B', pv, vl, el)) :
    ∀ n st T L E B m', 129 < n + st → st ≤ 129 → mm_M 49 86 T L m' → (∀ u, u ≠ s → u ≠ 83 → m' u = m u) → (st ≤ 128 → (m' s).length ≤ 48 → tm_nz g (iv_R m) (128 - st) (m' s) = o ∧ tm_P g S (m' s) ∧ tm_FC (iv_R m) (m' s)) → (st = 129 ∨ 48 < (m' s).length → o = none) → wX_normalize_2 post (nI s) n (nI st) xn xq xa xg T L ay gs so E B pv vl el := by
  intro n
  induction n with
  | zero => intro st T L E B m' a b; omega
  | succ n ih =>
    intro st T L E B m' ha hb hM hfr hok hno
    have hs86 : s < 86 := by omega
    have hle := mm_le hM hs86
    rw [wX_normalize_2]
    dsimp only
    refine pk_lt 128 st (fun hgt => h0 (hno (Or.inl (by omega))) T L E B m' hM hfr) (fun hst => ?_)
    rw [nI_clamp (n := s) (by omega), mm_len hM hs86]
    refine ⟨vp_in_nI hs86 (by omega), pk_le (m' s).length 48 (fun hl => ?_) (fun hl => h0 (hno (Or.inr hl)) T L E B m' hM hfr)⟩
    obtain ⟨hnz, hP, hF⟩ := hok hst hl
    refine xp_redex hM hs86 (fun i hi => ?_) (fun hi => ?_)
    · obtain ⟨hil, hrd⟩ := tm_rx_lt _ _ hi
      obtain ⟨r, hmm, hne, hst2, hP', hF'⟩ := tm_st_ok hG hR hP hF hrd
      have hil2 := tm_rd_lt hrd
      have hfn : tm_fn (tm_at (m' s) i) := hrd.1
      obtain ⟨k, hk⟩ : ∃ k, tm_kd (tm_at (m' s) (i + 1)) = some k := Option.ne_none_iff_exists'.mp hrd.2
      have hk2 : k < 2 := by
        have := tm_kd_c hk
        omega
      have hri : tm_ri (m' s) i = 4 * (tm_at (m' s) i - 70) + 2 * k := by
        unfold tm_ri
        rw [hk]
        rfl
      have b1 := mm_b hM hs86 i
      have b2 := mm_b hM hs86 (i + 1)
      have hrs : 17 + tm_ri (m' s) i < 48 := by omega
      refine br_t (nI_pos' (by omega)) ?_
      refine xp_sym hM hs86 (by omega) ?_
      rw [nI_1 i]
      refine xp_sym hM hs86 (by omega) ?_
      unfold wpX_ruleSlot
      refine xp_kind (by omega) (fun k' hk' => ?_) (fun hk' => by rw [hk] at hk'; cases hk')
      rw [hk] at hk'
      obtain rfl := Option.some.inj hk'
      rw [show (17 : Int32) + 4 * (nI (tm_at (m' s) i) - 70) + 2 * nI k = nI (17 + tm_ri (m' s) i) by
        rw [xi_slot hfn, show (2 : Int32) * nI k = nI (2 * k) from pk_mul 2 k, nI_add, hri, Nat.add_assoc]]
      refine xp_mark hg hM hs86 h3 (fun E' hE' => ?_)
      have hru : m' (17 + tm_ri (m' s) i) = iv_R m (tm_ri (m' s) i) := hfr _ (by omega) (by omega)
      have hru2 : m' (17 + tm_ri (m' s) i + 1) = iv_R m (tm_ri (m' s) i + 1) := hfr _ (by omega) (by omega)
      refine xp_match (g := g) (pat := true) hM hs86 (by omega) hE' (Or.inl ⟨rfl, by decide⟩) (by omega) ?_ ?_
      · rw [hru]
        intro r' B' hm' hB'
        rw [hmm] at hm'
        obtain rfl := Option.some.inj hm'
        have hpos := tm_mt_pos0 hmm
        refine nm_e ?_
        have hM1 := mm_nil hM (s := 83) (by omega)
        have q1 : ∀ {u : List Nat}, mm_set m' 83 u s = m' s := mm_set_n (by omega)
        have q2 : ∀ {u : List Nat}, mm_set m' 83 u (17 + tm_ri (m' s) i + 1) = m' (17 + tm_ri (m' s) i + 1) := mm_set_n (by omega)
        refine xp_copySpan (s := s) (t := 83) (start := 0) hM1 (by omega) hs86 (by omega) (by rw [q1]; omega) (Nat.zero_le _) (fun T2 L2 hM2 => ?_)
        rw [mm_set_s, mm_set_set, q1] at hM2
        rw [show nI (17 + tm_ri (m' s) i) + 1 = nI (17 + tm_ri (m' s) i + 1) from nI_1 _]
        refine xp_inst (g := g) (s := s) (t := 83) hM2 (by omega) hs86 (by omega) (by omega) (by omega) (by rw [q1]; exact hE') hB' (by rw [q1]; exact hpos) (fun T3 L3 hM3 => ?_)
        rw [mm_set_s, mm_set_set, q1, q2, hru2] at hM3
        have hl3 := mm_len hM3 hs86
        rw [q1] at hl3
        have e1 := tm_e_gt g (w := m' s) (q := i) (by omega)
        have e2 := tm_e_le g (w := m' s) (q := i) (by omega)
        refine ⟨vp_in_nI (by omega) (by omega), vp_in_nI hs86 (by omega), ?_⟩
        dsimp only
        rw [nI_clamp (n := i) (by omega), hl3, hE' i (by omega)]
        refine xp_copySpan (s := s) (t := 83) hM3 (by omega) hs86 (by omega) (by rw [q1]; exact Nat.le_refl _) e2 (fun T4 L4 hM4 => ?_)
        rw [mm_set_s, mm_set_set, q1, xl_st (x := []) _ e2, ← hst2] at hM4
        refine xp_copyText (s := 83) (t := s) hM4 hs86 (by omega) (by omega) (fun T5 L5 hM5 => ?_)
        rw [mm_set_s] at hM5
        refine nm_r (nI_1 st) (ih (st + 1) T5 L5 E' B' _ (by omega) (by omega) hM5 ?_ ?_ ?_)
        · intro u u1 u2
          rw [mm_set_n u1, mm_set_n u2]
          exact hfr u u1 u2
        · rw [mm_set_s]
          intro t1 t2
          have hlen : (tm_st g (iv_R m) (m' s) i).length ≤ 48 := by
            rw [List.length_take] at t2
            omega
          rw [mm_tl (by omega)]
          refine ⟨?_, hP', hF'⟩
          rw [show 128 - st = (128 - (st + 1)) + 1 by omega, tm_nz_s hi, if_pos hlen] at hnz
          exact hnz
        · rw [mm_set_s]
          intro t1
          by_cases hz : st = 128
          · subst hz
            rw [Nat.sub_self, tm_nz_0 hi] at hnz
            exact hnz.symm
          · rcases t1 with t1 | t1
            · omega
            · rw [List.length_take] at t1
              rw [show 128 - st = (128 - (st + 1)) + 1 by omega, tm_nz_s hi, if_neg (by omega)] at hnz
              exact hnz.symm
      · rw [hru, hmm]
        intro B' z
        cases z
    · rw [tm_nz_no hi] at hnz
      exact br_f (by decide) (h1 _ hnz.symm T L E B m' hM rfl hfr)
theorem xp_norm {post : Int32 → St1 → Prop} (hG : tm_GS g) (hR : tm_RU g (iv_R m)) (hg : sg_X g ay gs so) (h3 : ∀ c, tm_ar g c < 2 ^ 30) (hM : mm_M 49 86 T L m) {s : Nat} (hs : s < 83) (hs2 : 81 ≤ s) {S : List Nat} (hw : (m s).length ≤ 48 → tm_P g S (m s) ∧ tm_FC (iv_R m) (m s))
    (h1 : ∀ w', (m s).length ≤ 48 → tm_nz g (iv_R m) 128 (m s) = some w' → ∀ T' L' E' B' m', mm_M 49 86 T' L' m' → m' s = w' → (∀ u, u ≠ s → u ≠ 83 → m' u = m u) → post 1 (xn, xq, xa, xg, T', L', ay, gs, so, E', B', pv, vl, el))
    (h0 : ((m s).length ≤ 48 → tm_nz g (iv_R m) 128 (m s) = none) → ∀ T' L' E' B' m', mm_M 49 86 T' L' m' → (∀ u, u ≠ s → u ≠ 83 → m' u = m u) → post 0 (xn, xq, xa, xg, T', L', ay, gs, so, E', B', pv, vl, el)) : wpX_normalize post (xn, xq, xa, xg, T, L, ay, gs, so, E, B, pv, vl, el) (nI s) := by
  unfold wpX_normalize
  dsimp only
  by_cases hl : (m s).length ≤ 48
  · refine ⟨130, xl_norm (m := m) (o := tm_nz g (iv_R m) 128 (m s)) (S := S) hG hR hg h3 hs hs2 (fun w' e => h1 w' hl e) (fun e => h0 (fun _ => e)) 130 0 T L E B m (by omega) (by omega) hM (fun _ _ _ => rfl) (fun _ _ => ⟨rfl, hw hl⟩) (fun z => by omega)⟩
  · refine ⟨130, xl_norm (m := m) (o := none) (S := S) hG hR hg h3 hs hs2 (fun w' e => nomatch e) (fun _ => h0 (fun z => absurd z hl)) 130 0 T L E B m (by omega) (by omega) hM (fun _ _ _ => rfl) (fun _ z => absurd z hl) (fun _ => rfl)⟩
theorem xl_sameT {post : Int32 → Prop} (hM : mm_M 49 86 T L m) {a b : Nat} (ha : a < 86) (hb : b < 86) (hab : (m a).length = (m b).length) (h1 : m a = m b → post 1) (h0 : m a ≠ m b → post 0) : ∀ n i, (m a).length < n + i → i ≤ (m a).length → (∀ j, j < i → tm_at (m a) j = tm_at (m b) j) → wX_sameText_19 post (nI a) (nI b) xn xq xa xg T L ay gs so E B pv vl el n (nI i) := by
  have hle := mm_le hM ha
  intro n
  induction n with
  | zero => intro i a b; omega
  | succ n ih =>
    intro i a1 b1 hj
    rw [wX_sameText_19]
    dsimp only
    rw [nI_clamp (n := a) (by omega), mm_len hM ha]
    refine ⟨vp_in_nI ha (by omega), pk_le (m a).length i (fun hge => h1 (tm_ext hab (fun j hj2 => hj j (by omega)))) (fun hlt => ?_)⟩
    have c1 := mm_t hM ha hlt
    have c2 := mm_t hM hb (i := i) (by omega)
    have d1 := mm_b hM ha i
    have d2 := mm_b hM hb i
    rw [xi_ix, xi_ix, nI_clamp (n := a * 49 + i) (by omega), nI_clamp (n := b * 49 + i) (by omega), c1, c2]
    refine ⟨vp_in_nI (by omega) (by omega), vp_in_nI (by omega) (by omega), pk_eq (tm_at (m a) i) (tm_at (m b) i) (fun e => ?_) (fun e => h0 (fun z => e (by rw [z])))⟩
    refine nm_r (nI_1 i) (ih (i + 1) (by omega) (by omega) ?_)
    intro j hj2
    by_cases q : j = i
    · rw [q]; exact e
    · exact hj j (by omega)
theorem xp_sameT {post : Int32 → Prop} (hM : mm_M 49 86 T L m) {a b : Nat} (ha : a < 86) (hb : b < 86) (h1 : m a = m b → post 1) (h0 : m a ≠ m b → post 0) : wpX_sameText post (xn, xq, xa, xg, T, L, ay, gs, so, E, B, pv, vl, el) (nI a) (nI b) := by
  unfold wpX_sameText
  dsimp only
  have l1 := mm_le hM ha
  have l2 := mm_le hM hb
  rw [nI_clamp (n := a) (by omega), nI_clamp (n := b) (by omega), mm_len hM ha, mm_len hM hb]
  refine ⟨vp_in_nI ha (by omega), vp_in_nI hb (by omega), pk_eq (m a).length (m b).length (fun e => ?_) (fun e => h0 (fun z => e (by rw [z])))⟩
  exact ⟨_, xl_sameT hM ha hb e h1 h0 ((m a).length + 1) 0 (by omega) (Nat.zero_le _) (fun j hj => absurd hj (Nat.not_lt_zero _))⟩
end XD
