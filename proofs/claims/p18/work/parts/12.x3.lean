/-! 12: the class: ends of subterms, matching, filling in, REPLACE -/
section XC
variable {xn xq xa xg : Int32} {T L ay gs so E B pv vl el : Nat → Int32} {m : Nat → List Nat} {g : tm_G}
theorem tm_mt_pos0 {g : tm_G} {pat : Bool} {w p : List Nat} {q : Nat} {r : Nat × (Nat → Option Nat)} (h : tm_mt g pat w p q (fun _ => none) = some r) : ∀ v q0, r.2 v = some q0 → q0 < w.length := tm_mt_pos p q (fun _ => none) r (fun _ _ z => nomatch z) h
def xe_E (g : tm_G) (w : List Nat) (E : Nat → Int32) : Prop := ∀ q, q < w.length → E q = nI (tm_e g w q)
theorem xl_mark52 {post : St1 → Prop} {J : Int32 → (Nat → Int32) → (Nat → Int32) → (Nat → Int32) → (Nat → Int32) → (Nat → Int32) → (Nat → Int32) → (Nat → Int32) → (Nat → Int32) → (Nat → Int32) → (Nat → Int32) → Prop} (hM : mm_M 49 86 T L m) {s i a : Nat} (hs : s < 86) (hi : i < (m s).length) (ha : tm_ar g (tm_at (m s) i) = a) (ha3 : a < 2 ^ 30) (hE : ∀ q, i < q → q < (m s).length → E q = nI (tm_e g (m s) q))
    (hJ : J (nI i + (-1)) T L ay gs so (upd E i (nI (tm_e g (m s) i))) B pv vl el) : ∀ n j, a < n + j → j ≤ a → wX_markSubterms_52 post J (nI s) (nI i) (nI a) xn xq xa xg T L ay gs so E B pv vl el n (nI (i + 1 + tm_en g j ((m s).drop (i + 1)))) (nI j) := by
  have hle := mm_le hM hs
  have hrec := tm_e_rec g hi
  rw [ha] at hrec
  intro n
  induction n with
  | zero => intro j h1 h2; omega
  | succ n ih =>
    intro j h1 h2
    have hen := tm_en_le g ((m s).drop (i + 1)) j
    rw [List.length_drop] at hen
    rw [wX_markSubterms_52]
    dsimp only
    rw [nI_clamp (n := i) (by omega), nI_clamp (n := s) (by omega), mm_len hM hs]
    refine pk_le a j (fun hge => ?_) (fun hlt => ?_)
    · have e : j = a := by omega
      subst e
      rw [← hrec]
      exact ⟨vp_in_nI (by omega) (by omega), nm_e (nm_e hJ)⟩
    · refine ⟨vp_in_nI hs (by omega), pk_le (m s).length _ (fun hge => ?_) (fun hl2 => ?_)⟩
      · have e : i + 1 + tm_en g j ((m s).drop (i + 1)) = tm_e g (m s) i := by
          rw [hrec, show a = j + (a - j) by omega, tm_en_add g _ j (a - j), List.drop_drop, List.drop_eq_nil_of_le hge, tm_en_nil]
          omega
        rw [e]
        exact ⟨vp_in_nI (by omega) (by omega), nm_e (nm_e hJ)⟩
      · refine ⟨vp_in_nI (by omega) (by omega), ?_⟩
        rw [nI_clamp (n := i + 1 + tm_en g j ((m s).drop (i + 1))) (by omega), hE _ (by omega) hl2]
        refine nm_e (nm_r (nI_1 j) ?_)
        rw [← tm_e_iter]
        exact ih (j + 1) (by omega) (by omega)
theorem xl_mark9 {post : St1 → Prop} (hg : sg_X g ay gs so) (hM : mm_M 49 86 T L m) {s : Nat} (hs : s < 86) (h3 : ∀ c, tm_ar g c < 2 ^ 30) (h : ∀ E', xe_E g (m s) E' → post (xn, xq, xa, xg, T, L, ay, gs, so, E', B, pv, vl, el)) :
    ∀ n j E, j < n → j ≤ (m s).length → (∀ q, j ≤ q → q < (m s).length → E q = nI (tm_e g (m s) q)) → wX_markSubterms_9 post (nI s) xn xq xa xg n (nI j - 1) T L ay gs so E B pv vl el := by
  have hle := mm_le hM hs
  intro n
  induction n with
  | zero => intro j E hj; omega
  | succ n ih =>
    intro j E hj hjl hE
    rw [wX_markSubterms_9]
    dsimp only
    by_cases hz : j = 0
    · subst hz
      refine br_t (by decide) (h E (fun q hq => hE q (Nat.zero_le _) hq))
    · obtain ⟨i, rfl⟩ : ∃ i, j = i + 1 := ⟨j - 1, by omega⟩
      rw [xi_m1']
      have hbb := mm_b hM hs i
      have hT := mm_t hM hs (i := i) (by omega)
      refine br_f (nI_pos (by omega)) ?_
      rw [xi_ix, nI_clamp (n := s * 49 + i) (by omega), hT]
      refine ⟨vp_in_nI (by omega) (by omega), nm_e (br_f (nI_ge (b := 256) hbb (by decide)) ⟨vp_in_nI hbb (by omega), ?_⟩)⟩
      rw [nI_clamp (n := tm_at (m s) i) (by omega)]
      have hJ : wX_markSubterms_9 post (nI s) xn xq xa xg n (nI i + (-1)) T L ay gs so (upd E i (nI (tm_e g (m s) i))) B pv vl el := by
        rw [← Int32.sub_eq_add_neg]
        refine ih i _ (by omega) (by omega) ?_
        intro q h1 h2
        by_cases e : q = i
        · rw [e, mm_us]
        · rw [mm_un e]
          exact hE q (by omega) h2
      rcases sg_X_ar hg hbb with e | ⟨e, e2, _⟩
      · rw [e]
        refine nm_e (nm_r (nI_1 i) ⟨tm_ar g (tm_at (m s) i) + 1, ?_⟩)
        have := xl_mark52 (post := post) (xn := xn) (xq := xq) (xa := xa) (xg := xg) hM hs (i := i) (by omega) rfl (h3 _) (fun q h1 h2 => hE q (by omega) h2) hJ (tm_ar g (tm_at (m s) i) + 1) 0 (by omega) (Nat.zero_le _)
        rw [tm_en_0, Nat.add_zero] at this
        exact this
      · rw [e]
        refine nm_e (nm_r (nI_1 i) ⟨1, ?_⟩)
        rw [wX_markSubterms_52]
        dsimp only
        have hrec := tm_e_rec g (w := m s) (q := i) (by omega)
        rw [e2, tm_en_0, Nat.add_zero] at hrec
        rw [hrec] at hJ
        refine br_t (by decide) ⟨vp_in_nI (by omega) (by omega), ?_⟩
        rw [nI_clamp (n := i) (by omega)]
        exact nm_e (nm_e hJ)
theorem xp_mark {post : St1 → Prop} (hg : sg_X g ay gs so) (hM : mm_M 49 86 T L m) {s : Nat} (hs : s < 86) (h3 : ∀ c, tm_ar g c < 2 ^ 30) (h : ∀ E', xe_E g (m s) E' → post (xn, xq, xa, xg, T, L, ay, gs, so, E', B, pv, vl, el)) : wpX_markSubterms post (xn, xq, xa, xg, T, L, ay, gs, so, E, B, pv, vl, el) (nI s) := by
  unfold wpX_markSubterms
  dsimp only
  rw [nI_clamp (n := s) (by omega), mm_len hM hs]
  refine ⟨vp_in_nI hs (by omega), nm_e ⟨(m s).length + 1, xl_mark9 hg hM hs h3 h _ (m s).length E (by omega) (Nat.le_refl _) ?_⟩⟩
  intro q h1 h2
  omega
theorem xl_same {post : Int32 → Prop} (hM : mm_M 49 86 T L m) {s p q z : Nat} (hs : s < 86) (hp : p + z ≤ (m s).length) (hq : q + z ≤ (m s).length) (h1 : (∀ j, j < z → tm_at (m s) (p + j) = tm_at (m s) (q + j)) → post 1) (h0 : ∀ j, j < z → tm_at (m s) (p + j) ≠ tm_at (m s) (q + j) → post 0) :
    ∀ n i, z < n + i → i ≤ z → (∀ j, j < i → tm_at (m s) (p + j) = tm_at (m s) (q + j)) → wX_sameSubterm_28 post (nI s) (nI p) (nI q) (nI z) xn xq xa xg T L ay gs so E B pv vl el n (nI i) := by
  have hle := mm_le hM hs
  intro n
  induction n with
  | zero => intro i a b; omega
  | succ n ih =>
    intro i a b hj
    rw [wX_sameSubterm_28]
    dsimp only
    refine pk_le z i (fun hge => ?_) (fun hlt => ?_)
    · exact h1 (fun j hj2 => hj j (by omega))
    · have c1 := mm_t hM hs (i := p + i) (by omega)
      have c2 := mm_t hM hs (i := q + i) (by omega)
      have b1 := mm_b hM hs (p + i)
      have b2 := mm_b hM hs (q + i)
      rw [xi_ix, xi_ix, nI_add, nI_add, Nat.add_assoc, Nat.add_assoc, nI_clamp (n := s * 49 + (p + i)) (by omega), nI_clamp (n := s * 49 + (q + i)) (by omega), c1, c2]
      refine ⟨vp_in_nI (by omega) (by omega), vp_in_nI (by omega) (by omega), pk_eq _ _ (fun e => ?_) (fun e => h0 i hlt e)⟩
      refine nm_r (nI_1 i) (ih (i + 1) (by omega) (by omega) ?_)
      intro j hj2
      by_cases q : j = i
      · rw [q]; exact e
      · exact hj j (by omega)
theorem xp_same {post : Int32 → Prop} (hM : mm_M 49 86 T L m) {s p q : Nat} (hs : s < 86) (hE : xe_E g (m s) E) (hp : p < (m s).length) (hq : q < (m s).length) (h1 : tm_sub g (m s) p = tm_sub g (m s) q → post 1) (h0 : tm_sub g (m s) p ≠ tm_sub g (m s) q → post 0) : wpX_sameSubterm post (xn, xq, xa, xg, T, L, ay, gs, so, E, B, pv, vl, el) (nI s) (nI p) (nI q) := by
  unfold wpX_sameSubterm
  dsimp only
  have hle := mm_le hM hs
  have p1 := tm_e_gt g hp
  have p2 := tm_e_le g (Nat.le_of_lt hp)
  have q1 := tm_e_gt g hq
  have q2 := tm_e_le g (Nat.le_of_lt hq)
  have l1 := tm_sub_len g (Nat.le_of_lt hp)
  have l2 := tm_sub_len g (Nat.le_of_lt hq)
  rw [nI_clamp (n := p) (by omega), nI_clamp (n := q) (by omega), hE p hp, hE q hq, pk_sub (by omega), pk_sub (by omega)]
  refine ⟨vp_in_nI (by omega) (by omega), nm_e ⟨vp_in_nI (by omega) (by omega), pk_eq _ _ (fun e => ?_) (fun e => h0 ?_)⟩⟩
  · refine ⟨tm_e g (m s) p - p + 1, xl_same hM hs (by omega) (by omega) (fun hj => h1 ?_) (fun j hj hn => h0 ?_) _ 0 (by omega) (Nat.zero_le _) (fun j hj => absurd hj (Nat.not_lt_zero _))⟩
    · apply tm_ext (by omega)
      intro j hj2
      rw [tm_sub_at g (by omega), tm_sub_at g (by omega)]
      exact hj j (by omega)
    · intro z
      apply hn
      rw [← tm_sub_at g (w := m s) (q := p) (by omega), ← tm_sub_at g (w := m s) (q := q) (by omega), z]
  · intro z
    have := congrArg List.length z
    omega
theorem xl_match {post : Int32 → St1 → Prop} (hM : mm_M 49 86 T L m) {s f : Nat} {pat : Bool} {px : Int32} (hs : s < 86) (hf : f < 86) (hE : xe_E g (m s) E) (hp : (pat = true ∧ ¬ px = 0) ∨ (pat = false ∧ px = 0)) :
    ∀ n j q B b, (m f).length < n + j → j ≤ (m f).length → q ≤ (m s).length → rb_X B b → (∀ v q0, b v = some q0 → q0 < (m s).length) →
      (∀ r B', tm_mt g pat (m s) ((m f).drop j) q b = some r → rb_X B' r.2 → post 1 (xn, xq, xa, xg, T, L, ay, gs, so, E, B', pv, vl, el)) → (∀ B', tm_mt g pat (m s) ((m f).drop j) q b = none → post 0 (xn, xq, xa, xg, T, L, ay, gs, so, E, B', pv, vl, el)) → wX_matchesAt_30 post (nI f) (nI s) px xn xq xa xg n (nI q) (nI j) T L ay gs so E B pv vl el := by
  have hls := mm_le hM hs
  have hlf := mm_le hM hf
  intro n
  induction n with
  | zero => intro j q B b h1 h2; omega
  | succ n ih =>
    intro j q B b h1 h2 h3 hB hb hy hn
    rw [wX_matchesAt_30]
    dsimp only
    rw [nI_clamp (n := f) (by omega), nI_clamp (n := s) (by omega), mm_len hM hf, mm_len hM hs]
    refine ⟨vp_in_nI hf (by omega), pk_le (m f).length j (fun hge => ?_) (fun hlt => ⟨vp_in_nI hs (by omega), pk_lt q (m s).length (fun hq => ?_) (fun hq => ?_)⟩)⟩
    · refine hy (q, b) B ?_ hB
      rw [List.drop_eq_nil_of_le hge]
      exact tm_mt_nil
    · have hbp := mm_b hM hf j
      have hbs := mm_b hM hs q
      have hT := mm_t hM hs hq
      rw [tm_drop_cons hlt] at hy hn
      have hsym : ∀ (_ : pat = false ∨ tm_vn (tm_at (m f) j) = none), wX_matchesAt_77 post (wX_matchesAt_30 post (nI f) (nI s) px xn xq xa xg n) (nI f) (nI s) px (nI q) (nI j) (nI (tm_at (m f) j)) (-1) xn xq xa xg T L ay gs so E B pv vl el := by
        intro hv
        rw [tm_mt_sym hq hv] at hy hn
        unfold wX_matchesAt_77
        rw [xi_ix, nI_clamp (n := s * 49 + q) (by omega), hT]
        refine br_t (by decide) ⟨vp_in_nI (by omega) (by omega), pk_eq _ _ (fun e => ?_) (fun e => ?_)⟩
        · rw [if_pos e] at hy hn
          exact nm_r (nI_1 q) (nm_r (nI_1 j) (ih (j + 1) (q + 1) B b (by omega) (by omega) (by omega) hB hb hy hn))
        · rw [if_neg e] at hn
          exact hn B rfl
      refine xp_sym hM hf (by omega) ?_
      rcases hp with ⟨hp1, hp2⟩ | ⟨hp1, hp2⟩
      · subst hp1
        refine br_f hp2 ?_
        refine xp_vnum (by omega) (fun v hv hv16 => ?_) (fun hv => hsym (Or.inr hv))
        have h125 : ∀ (B2 : Nat → Int32) (b2 : Nat → Option Nat), rb_X B2 b2 → (∀ v q0, b2 v = some q0 → q0 < (m s).length) → tm_mt g true (m s) (tm_at (m f) j :: (m f).drop (j + 1)) q b = tm_mt g true (m s) ((m f).drop (j + 1)) (tm_e g (m s) q) b2 →
            wX_matchesAt_125 post (wX_matchesAt_30 post (nI f) (nI s) px xn xq xa xg n) (nI f) (nI s) px (nI q) (nI j) xn xq xa xg T L ay gs so E B2 pv vl el := by
          intro B2 b2 hB2 hb2 he
          rw [he] at hy hn
          unfold wX_matchesAt_125
          rw [nI_clamp (n := q) (by omega), hE q hq]
          exact ⟨vp_in_nI (by omega) (by omega), nm_e (nm_r (nI_1 j) (ih (j + 1) _ B2 b2 (by omega) (by omega) (tm_e_le g h3) hB2 hb2 hy hn))⟩
        show wX_matchesAt_77 _ _ _ _ _ _ _ _ (nI v) _ _ _ _ _ _ _ _ _ _ _ _ _ _
        unfold wX_matchesAt_77
        rw [nI_clamp (n := v) (by omega)]
        refine br_f (nI_pos (by omega)) ⟨vp_in_nI hv16 (by omega), ?_⟩
        cases hbv : b v with
        | none =>
          rw [(hB v hv16).1 hbv]
          refine br_f (by decide) ⟨vp_in_nI hv16 (by omega), nm_e ?_⟩
          refine h125 _ (tm_bu b v q) (rb_X_up hB) ?_ (tm_mt_new hq hv hbv)
          intro v2 q0 h
          unfold tm_bu at h
          by_cases e : v2 = v
          · rw [if_pos e] at h
            rw [← Option.some.inj h]
            exact hq
          · rw [if_neg e] at h
            exact hb v2 q0 h
        | some q0 =>
          have hq0 := hb v q0 hbv
          rw [(hB v hv16).2 q0 hbv]
          refine br_t (nI_pos' (by omega)) ⟨vp_in_nI hv16 (by omega), ?_⟩
          have ho := tm_mt_old (g := g) (w := m s) (p := (m f).drop (j + 1)) (b := b) hq hv hbv
          refine xp_same hM hs hE hq0 hq (fun e => ?_) (fun e => ?_)
          · rw [if_pos e] at ho
            exact br_f (by decide) (h125 B b hB hb ho)
          · rw [if_neg e] at ho
            exact br_t rfl (hn B ho)
      · exact br_t hp2 (hsym (Or.inl hp1))
    · refine hn B ?_
      rw [tm_drop_cons hlt]
      exact tm_mt_out hq
theorem xl_match3 {post : Int32 → St1 → Prop} {x1 x2 x3 x4 : Int32} (h : ∀ B', rb_X B' (fun _ => none) → ∃ n, wX_matchesAt_30 post x1 x2 x4 xn xq xa xg n x3 0 T L ay gs so E B' pv vl el) : ∀ n i B, 16 < n + i → i ≤ 16 → (∀ v, v < i → B v = -1) → wX_matchesAt_3 post x1 x2 x3 x4 xn xq xa xg n (nI i) T L ay gs so E B pv vl el := by
  intro n
  induction n with
  | zero => intro i B a b; omega
  | succ n ih =>
    intro i B a b hB
    rw [wX_matchesAt_3]
    dsimp only
    refine pk_le 16 i (fun hge => ?_) (fun hlt => ?_)
    · exact h B (fun v hv => ⟨fun _ => hB v (by omega), fun q0 z => nomatch z⟩)
    · rw [nI_clamp (n := i) (by omega)]
      refine ⟨vp_in_nI hlt (by omega), nm_e (nm_r (nI_1 i) (ih (i + 1) _ (by omega) (by omega) ?_))⟩
      intro v hv
      by_cases e : v = i
      · rw [e, mm_us]
      · rw [mm_un e]
        exact hB v (by omega)
theorem xp_match {post : Int32 → St1 → Prop} (hM : mm_M 49 86 T L m) {s f i : Nat} {pat : Bool} {px : Int32} (hs : s < 86) (hf : f < 86) (hE : xe_E g (m s) E) (hp : (pat = true ∧ ¬ px = 0) ∨ (pat = false ∧ px = 0)) (hi : i ≤ (m s).length)
    (hy : ∀ r B', tm_mt g pat (m s) (m f) i (fun _ => none) = some r → rb_X B' r.2 → post 1 (xn, xq, xa, xg, T, L, ay, gs, so, E, B', pv, vl, el)) (hn : ∀ B', tm_mt g pat (m s) (m f) i (fun _ => none) = none → post 0 (xn, xq, xa, xg, T, L, ay, gs, so, E, B', pv, vl, el)) : wpX_matchesAt post (xn, xq, xa, xg, T, L, ay, gs, so, E, B, pv, vl, el) (nI f) (nI s) (nI i) px := by
  unfold wpX_matchesAt
  dsimp only
  refine ⟨17, xl_match3 ?_ 17 0 B (by omega) (by omega) (fun v hv => absurd hv (Nat.not_lt_zero _))⟩
  intro B' hB'
  refine ⟨(m f).length + 1, xl_match hM hs hf hE hp _ 0 i B' (fun _ => none) (by omega) (Nat.zero_le _) hi hB' (fun _ _ z => nomatch z) ?_ ?_⟩
  · rw [List.drop_zero]
    exact hy
  · rw [List.drop_zero]
    exact hn
theorem xi_sub (g : tm_G) (w : List Nat) (q : Nat) : (w.drop q).take (tm_e g w q - q) = tm_sub g w q := by
  unfold tm_e tm_sub
  rw [Nat.add_sub_cancel_left]
theorem xl_inst {post : St1 → Prop} {t s p : Nat} (ht : t < 86) (hs : s < 86) (hp : p < 86) (hst : s ≠ t) (hpt : p ≠ t) (hE : xe_E g (m s) E) {b : Nat → Option Nat} (hB : rb_X B b) (hb : ∀ v q0, b v = some q0 → q0 < (m s).length) :
    ∀ n j T L m', (m p).length < n + j → j ≤ (m p).length → m' s = m s → m' p = m p → mm_M 49 86 T L m' → (∀ T' L', mm_M 49 86 T' L' (mm_set m' t ((m' t ++ tm_in g (m s) b ((m p).drop j)).take 49)) → post (xn, xq, xa, xg, T', L', ay, gs, so, E, B, pv, vl, el)) → wX_copyInstance_3 post (nI t) (nI p) (nI s) n (nI j) xn xq xa xg T L ay gs so E B pv vl el := by
  intro n
  induction n with
  | zero => intro j T L m' a b; omega
  | succ n ih =>
    intro j T L m' h1 h2 hms hmp hM h
    have hlp := mm_le hM hp
    have hls := mm_le hM hs
    have hlt := mm_le hM ht
    rw [hmp] at hlp
    rw [hms] at hls
    rw [wX_copyInstance_3]
    dsimp only
    rw [nI_clamp (n := p) (by omega), mm_len hM hp, hmp]
    refine ⟨vp_in_nI hp (by omega), pk_le (m p).length j (fun hge => ?_) (fun hlt2 => ?_)⟩
    · apply h
      rw [List.drop_eq_nil_of_le hge]
      show mm_M 49 86 T L (mm_set m' t ((m' t ++ []).take 49))
      rw [List.append_nil, mm_tl hlt, mm_set_self]
      exact hM
    · rw [tm_drop_cons hlt2] at h
      have hbb := mm_b hM hp j
      refine xp_sym hM hp (by omega) ?_
      rw [hmp]
      rw [hmp] at hbb
      have hnext : ∀ (u : List Nat) T' L', tm_i1 g (m s) b (tm_at (m p) j) = u → mm_M 49 86 T' L' (mm_set m' t ((m' t ++ u).take 49)) → wX_copyInstance_3 post (nI t) (nI p) (nI s) n (nI j + 1) xn xq xa xg T' L' ay gs so E B pv vl el := by
        intro u T' L' hu hM'
        rw [nI_1]
        refine ih (j + 1) T' L' _ (by omega) (by omega) ?_ ?_ hM' ?_
        · rw [mm_set_n hst, hms]
        · rw [mm_set_n hpt, hmp]
        · intro T2 L2 hM2
          apply h
          rw [mm_set_s, mm_set_set, mm_tt, List.append_assoc] at hM2
          show mm_M 49 86 T2 L2 (mm_set m' t ((m' t ++ (tm_i1 g (m s) b (tm_at (m p) j) ++ tm_in g (m s) b ((m p).drop (j + 1)))).take 49))
          rw [hu]
          exact hM2
      have happ : tm_i1 g (m s) b (tm_at (m p) j) = [tm_at (m p) j] → wX_copyInstance_46 post (wX_copyInstance_3 post (nI t) (nI p) (nI s) n) (nI t) (nI p) (nI s) (nI j) (nI (tm_at (m p) j)) (-1) xn xq xa xg T L ay gs so E B pv vl el := by
        intro hu
        unfold wX_copyInstance_46
        refine br_f (by decide) ?_
        exact xp_append hM ht hbb (fun T' L' hM' => nm_e (hnext _ T' L' hu hM'))
      refine xp_vnum (by omega) (fun v hv hv16 => ?_) (fun hv => ?_)
      · refine br_t (nI_pos' (by omega)) ⟨vp_in_nI hv16 (by omega), ?_⟩
        rw [nI_clamp (n := v) (by omega)]
        cases hbv : b v with
        | none =>
          rw [(hB v hv16).1 hbv]
          exact happ (tm_i1_u hv hbv)
        | some q0 =>
          have hq0 := hb v q0 hbv
          rw [(hB v hv16).2 q0 hbv]
          unfold wX_copyInstance_46
          rw [nI_clamp (n := q0) (by omega), hE q0 hq0]
          refine br_t (nI_pos' (by omega)) ⟨vp_in_nI (by omega) (by omega), ?_⟩
          have e1 := tm_e_gt g hq0
          have e2 := tm_e_le g (Nat.le_of_lt hq0)
          refine xp_copySpan hM ht hs hst (by rw [hms]; exact e2) (by omega) (fun T' L' hM' => nm_e (hnext _ T' L' (tm_i1_b hv hbv) ?_))
          rw [hms, xi_sub] at hM'
          exact hM'
      · exact br_f (by decide) (happ (tm_i1_n hv))
theorem xp_inst {post : St1 → Prop} (hM : mm_M 49 86 T L m) {t s p : Nat} (ht : t < 86) (hs : s < 86) (hp : p < 86) (hst : s ≠ t) (hpt : p ≠ t) (hE : xe_E g (m s) E) {b : Nat → Option Nat} (hB : rb_X B b) (hb : ∀ v q0, b v = some q0 → q0 < (m s).length)
    (h : ∀ T' L', mm_M 49 86 T' L' (mm_set m t ((m t ++ tm_in g (m s) b (m p)).take 49)) → post (xn, xq, xa, xg, T', L', ay, gs, so, E, B, pv, vl, el)) : wpX_copyInstance post (xn, xq, xa, xg, T, L, ay, gs, so, E, B, pv, vl, el) (nI t) (nI p) (nI s) := by
  unfold wpX_copyInstance
  dsimp only
  refine ⟨(m p).length + 1, xl_inst (m := m) ht hs hp hst hpt hE hB hb _ 0 T L m (by omega) (Nat.zero_le _) rfl rfl hM ?_⟩
  rw [List.drop_zero]
  exact h
theorem xl_repl {post : Int32 → St1 → Prop} {s t f p : Nat} {pat : Bool} {px : Int32} (hs : s < 86) (ht : t < 86) (hf : f < 86) (hp : p < 86) (hst : s ≠ t) (hft : f ≠ t) (hpt : p ≠ t) (hE : xe_E g (m s) E) (hpx : (pat = true ∧ ¬ px = 0) ∨ (pat = false ∧ px = 0)) (hl49 : (m s).length ≤ 49) :
    ∀ n i nx pp hits acc T L B, (m s).length < n + i → i ≤ (m s).length → ((i < nx ∧ nx ≤ (m s).length ∧ pp = nx) ∨ (nx ≤ i ∧ pp = i)) → hits ≤ i → mm_M 49 86 T L (mm_set m t (acc.take 49)) →
      (∀ T' L' B', mm_M 49 86 T' L' (mm_set m t ((acc ++ (tm_R g pat (m s) (m f) (m p) pp).2).take 49)) → post (nI (hits + (tm_R g pat (m s) (m f) (m p) pp).1)) (xn, xq, xa, xg, T', L', ay, gs, so, E, B', pv, vl, el)) → wX_replaceAll_21 post (nI s) (nI t) (nI f) (nI p) px n (nI hits) (nI nx) (nI i) xn xq xa xg T L ay gs so E B pv vl el := by
  intro n
  induction n with
  | zero => intro i nx pp hits acc T L B a b; omega
  | succ n ih =>
    intro i nx pp hits acc T L B h1 h2 hc hh hM h
    have es : mm_set m t (acc.take 49) s = m s := mm_set_n hst
    have ef : mm_set m t (acc.take 49) f = m f := mm_set_n hft
    have ep : mm_set m t (acc.take 49) p = m p := mm_set_n hpt
    rw [wX_replaceAll_21]
    dsimp only
    rw [nI_clamp (n := s) (by omega), mm_len hM hs, es]
    refine ⟨vp_in_nI hs (by omega), pk_le (m s).length i (fun hge => ?_) (fun hlt => ?_)⟩
    · have e : (m s).length ≤ pp := by omega
      rw [tm_R_out e, List.append_nil] at h
      exact h T L B hM
    · refine pk_le nx i (fun hge => ?_) (fun hlt2 => ?_)
      · have epp : pp = i := by omega
        subst epp
        refine xp_match (m := mm_set m t (acc.take 49)) (g := g) (pat := pat) hM hs hf (by rw [es]; exact hE) hpx (by rw [es]; omega) ?_ ?_
        · rw [es, ef]
          intro r B' hm hB'
          rw [tm_R_hit hlt hm] at h
          refine br_f (by decide) (nm_r (nI_1 hits) ?_)
          refine xp_inst (m := mm_set m t (acc.take 49)) hM ht hs hp hst hpt (by rw [es]; exact hE) hB' ?_ ?_
          · rw [es]
            exact tm_mt_pos0 hm
          · intro T' L' hM'
            rw [mm_set_s, mm_set_set, mm_tt, es, ep] at hM'
            have e1 := tm_e_gt g hlt
            have e2 := tm_e_le g (Nat.le_of_lt hlt)
            refine ⟨vp_in_nI (by omega) (by omega), ?_⟩
            dsimp only
            rw [nI_clamp (n := pp) (by omega), hE pp hlt]
            refine nm_e (nm_r (nI_1 pp) (ih (pp + 1) _ (tm_e g (m s) pp) (hits + 1) _ T' L' B' (by omega) (by omega) ?_ (by omega) hM' ?_))
            · by_cases q : pp + 1 < tm_e g (m s) pp
              · exact Or.inl ⟨q, e2, rfl⟩
              · exact Or.inr ⟨by omega, by omega⟩
            · intro T2 L2 B2 hM2
              rw [List.append_assoc] at hM2
              have := h T2 L2 B2 hM2
              rw [show hits + ((tm_R g pat (m s) (m f) (m p) (tm_e g (m s) pp)).1 + 1) = hits + 1 + (tm_R g pat (m s) (m f) (m p) (tm_e g (m s) pp)).1 by omega] at this
              exact this
        · rw [es, ef]
          intro B' hm
          rw [tm_R_miss hlt hm] at h
          refine br_t rfl ?_
          show wpX_copySpan _ _ _ _ (nI pp) (nI pp + 1)
          rw [nI_1]
          refine xp_copySpan (m := mm_set m t (acc.take 49)) hM ht hs hst (by rw [es]; omega) (by omega) (fun T' L' hM' => nm_e (ih (pp + 1) nx (pp + 1) hits (acc ++ [tm_at (m s) pp]) T' L' B' (by omega) (by omega) (Or.inr ⟨by omega, rfl⟩) (by omega) ?_ ?_))
          · rw [mm_set_s, mm_set_set, mm_tt, es, show pp + 1 - pp = 1 by omega, tm_drop_cons hlt, List.take_succ_cons, List.take_zero] at hM'
            exact hM'
          · intro T2 L2 B2 hM2
            rw [List.append_assoc] at hM2
            exact h T2 L2 B2 hM2
      · refine nm_r (nI_1 i) (ih (i + 1) nx pp hits acc T L B (by omega) (by omega) ?_ (by omega) hM h)
        by_cases q : i + 1 < nx
        · exact Or.inl ⟨q, by omega, by omega⟩
        · exact Or.inr ⟨by omega, by omega⟩
theorem xp_repl {post : Int32 → St1 → Prop} (hg : sg_X g ay gs so) (h3 : ∀ c, tm_ar g c < 2 ^ 30) (hM : mm_M 49 86 T L m) {s t f p : Nat} {pat : Bool} {px : Int32} (hs : s < 86) (ht : t < 86) (hf : f < 86) (hp : p < 86) (hst : s ≠ t) (hft : f ≠ t) (hpt : p ≠ t) (hpx : (pat = true ∧ ¬ px = 0) ∨ (pat = false ∧ px = 0))
    (h : ∀ T' L' E' B', mm_M 49 86 T' L' (mm_set m t ((tm_R g pat (m s) (m f) (m p) 0).2.take 49)) → post (nI (tm_R g pat (m s) (m f) (m p) 0).1) (xn, xq, xa, xg, T', L', ay, gs, so, E', B', pv, vl, el)) : wpX_replaceAll post (xn, xq, xa, xg, T, L, ay, gs, so, E, B, pv, vl, el) (nI s) (nI t) (nI f) (nI p) px := by
  unfold wpX_replaceAll
  dsimp only
  refine xp_mark hg hM hs h3 (fun E' hE' => ?_)
  rw [nI_clamp (n := t) (by omega)]
  refine ⟨vp_in_nI ht (by omega), nm_e ⟨(m s).length + 1, ?_⟩⟩
  refine xl_repl (m := m) (g := g) (pat := pat) hs ht hf hp hst hft hpt hE' hpx (mm_le hM hs) _ 0 0 0 0 [] T _ B (by omega) (Nat.zero_le _) (Or.inr ⟨Nat.le_refl _, rfl⟩) (Nat.le_refl _) (mm_nil hM ht) ?_
  intro T' L' B' hM'
  rw [Nat.zero_add]
  exact h T' L' E' B' hM'
end XC
