/-! 21: the reference: sorts, equations, ends, matching, REPLACE -/
section YB
variable {yn yq yg ya : Int32} {T L K bo bs be fa fr fe hr ft hyA vl ee wb : Nat → Int32} {m : Nat → List Nat} {n : Nat} {A : Nat → List Nat} {Z : Nat → Nat}
/-- the stack, its top first in the list -/
def ys_K (S : List Nat) (K : Nat → Int32) : Prop := ∀ j, j < S.length → K (S.length - 1 - j) = nI (tm_at S j)
theorem ys_push {S : List Nat} {K : Nat → Int32} {e : Nat} (h : ys_K S K) : ys_K (e :: S) (upd K S.length (nI e)) := by
  intro j hj
  rw [List.length_cons] at hj ⊢
  cases j with
  | zero =>
    rw [show S.length + 1 - 1 - 0 = S.length by omega, cm_us]
    rfl
  | succ j =>
    rw [cm_un (by omega), show S.length + 1 - 1 - (j + 1) = S.length - 1 - j by omega, h j (by omega)]
    rfl
theorem ys_pop {S : List Nat} {K : Nat → Int32} {e : Nat} (h : ys_K (e :: S) K) : K S.length = nI e ∧ ys_K S K := by
  constructor
  · have := h 0 (by rw [List.length_cons]; omega)
    rw [List.length_cons] at this
    rw [show S.length + 1 - 1 - 0 = S.length by omega] at this
    exact this
  · intro j hj
    have := h (j + 1) (by rw [List.length_cons]; omega)
    rw [List.length_cons] at this
    rw [show S.length - 1 - j = S.length + 1 - 1 - (j + 1) by omega, this]
    rfl
theorem so_B_app {S U : List Nat} (h : so_B S) (h2 : so_B U) : so_B (S ++ U) := by
  intro x hx
  rcases List.mem_append.mp hx with e | e
  · exact h x e
  · exact h2 x e
theorem yl_110 {post : Int32 → SY → Prop} {J : Int32 → Int32 → Int32 → (Nat → Int32) → (Nat → Int32) → (Nat → Int32) → (Nat → Int32) → (Nat → Int32) → (Nat → Int32) → (Nat → Int32) → (Nat → Int32) → (Nat → Int32) → (Nat → Int32) → (Nat → Int32) → (Nat → Int32) → (Nat → Int32) → (Nat → Int32) → (Nat → Int32) → Prop} {x1 x2 x3 x5 : Int32} {c i s : Nat} {a S : List Nat} (hS : tm_SG n A Z) (hg : sg_Y n A Z fa fr fe) (hc : c < 65536) (hga : tm_sg n A Z c = some (a, s)) (hl : S.length ≤ 120)
    (hJ : ∀ K', ys_K (a ++ S) K' → J (nI (a ++ S).length) x5 (nI i + 1) T L K' bo bs be fa fr fe hr ft hyA vl ee wb) : ∀ f j K, j < f → j ≤ a.length → ys_K (a.drop j ++ S) K → wY_sortOf_110 post J x1 x2 x3 x5 (nI i) (nI c) (nI n) yq yg ya f (nI (a.drop j ++ S).length) (nI j - 1) T L K bo bs be fa fr fe hr ft hyA vl ee wb := by
  have h3 := (tm_sg_b hS hga).1
  intro f
  induction f with
  | zero => intro j K a; omega
  | succ f ih =>
    intro j K h1 h2 hK
    rw [wY_sortOf_110]
    dsimp only
    by_cases hz : j = 0
    · subst hz
      exact br_t (by decide) (nm_e (hJ K hK))
    · obtain ⟨k, rfl⟩ : ∃ k, j = k + 1 := ⟨j - 1, by omega⟩
      rw [xi_m1']
      have hlen : (a.drop (k + 1) ++ S).length < 128 := by
        rw [List.length_append, List.length_drop]
        omega
      refine br_f (nI_pos (by omega)) (br_t (nI_lt (b := 128) hlen (by decide)) ?_)
      refine yp_as hS hg hc hga (by omega) ?_
      rw [nI_clamp (n := (a.drop (k + 1) ++ S).length) (by omega)]
      have hp := ys_push (e := tm_at a k) hK
      have hd : tm_at a k :: (a.drop (k + 1) ++ S) = a.drop k ++ S := by
        rw [tm_drop_cons (show k < a.length by omega)]
        rfl
      rw [hd] at hp
      have hl2 : (a.drop (k + 1) ++ S).length + 1 = (a.drop k ++ S).length := by
        rw [← hd, List.length_cons]
      refine ⟨vp_in_nI hlen (by omega), nm_e (nm_r (nI_1 _) (nm_r (e' := nI k - 1) (Int32.sub_eq_add_neg _ _).symm ?_))⟩
      rw [hl2]
      exact ih k _ (by omega) (by omega) hp
theorem yl_96 {post : Int32 → SY → Prop} {J : Int32 → Int32 → Int32 → (Nat → Int32) → (Nat → Int32) → (Nat → Int32) → (Nat → Int32) → (Nat → Int32) → (Nat → Int32) → (Nat → Int32) → (Nat → Int32) → (Nat → Int32) → (Nat → Int32) → (Nat → Int32) → (Nat → Int32) → (Nat → Int32) → (Nat → Int32) → (Nat → Int32) → Prop} {x1 x2 x3 x5 : Int32} {c i s : Nat} {a S : List Nat} (hS : tm_SG n A Z) (hg : sg_Y n A Z fa fr fe) (hc : c < 65536) (hga : tm_sg n A Z c = some (a, s)) (hl : S.length ≤ 120) (hK : ys_K S K)
    (hJ : ∀ K', ys_K (a ++ S) K' → J (nI (a ++ S).length) x5 (nI i + 1) T L K' bo bs be fa fr fe hr ft hyA vl ee wb) : wY_sortOf_96 post J x1 x2 x3 (nI S.length) x5 (nI i) (nI c) (nI n) yq yg ya T L K bo bs be fa fr fe hr ft hyA vl ee wb := by
  unfold wY_sortOf_96
  refine yp_ar hS hg hc ?_
  rw [tm_ar_some hga]
  have := yl_110 (post := post) (J := J) (x1 := x1) (x2 := x2) (x3 := x3) (x5 := x5) (yq := yq) (yg := yg) (ya := ya) (T := T) (L := L) (bo := bo) (bs := bs) (be := be) (hr := hr) (ft := ft) (hyA := hyA) (vl := vl) (ee := ee) (wb := wb) (i := i) hS hg hc hga hl hJ (a.length + 1) a.length K (by omega) (Nat.le_refl _) (by rw [List.drop_eq_nil_of_le (Nat.le_refl _)]; exact hK)
  rw [List.drop_eq_nil_of_le (Nat.le_refl _)] at this
  exact nm_e ⟨_, this⟩
theorem yl_23 {post : Int32 → SY → Prop} {root : Int32} {s a b : Nat} (hS : tm_SG n A Z) (hg : sg_Y n A Z fa fr fe) (hM : cm_M 64 89 T L m) (hs : s < 89) (hb : b ≤ (m s).length) (h48 : b ≤ 48) :
    ∀ f i S K, b - i < f → a < i → i ≤ b → S.length ≤ 2 * i + 1 → so_B S → ys_K S K → (tm_P (tm_sg n A Z) S (((m s).take b).drop i) → ∀ K', post root (nI n, yq, yg, ya, T, L, K', bo, bs, be, fa, fr, fe, hr, ft, hyA, vl, ee, wb)) → (¬ tm_P (tm_sg n A Z) S (((m s).take b).drop i) → ∀ K', post (-1) (nI n, yq, yg, ya, T, L, K', bo, bs, be, fa, fr, fe, hr, ft, hyA, vl, ee, wb)) → wY_sortOf_23 post (nI s) (nI a) (nI b) (nI n) yq yg ya f (nI S.length) root (nI i) T L K bo bs be fa fr fe hr ft hyA vl ee wb := by
  have hlt : ((m s).take b).length = b := by rw [List.length_take]; omega
  intro f
  induction f with
  | zero => intro i S K h; omega
  | succ f ih =>
    intro i S K h1 h2 h3 h4 hB hK hy hn
    rw [wY_sortOf_23]
    dsimp only
    refine pk_le b i (fun hge => ?_) (fun hlt2 => ?_)
    · rw [List.drop_eq_nil_of_le (by omega)] at hy hn
      refine pk_eq S.length 0 (fun e => hy (List.eq_nil_of_length_eq_zero e) K) (fun e => hn (fun z => e (by rw [show S = [] from z]; rfl)) K)
    · have hat : ((m s).take b).drop i = tm_at (m s) i :: ((m s).take b).drop (i + 1) := by
        rw [tm_drop_cons (by omega), tm_at_take (by omega)]
      rw [hat] at hy hn
      refine pk_eq S.length 0 (fun e => hn (fun z => ?_) K) (fun e => ?_)
      · obtain ⟨_, _, _, _, hS2, _⟩ := z
        rw [hS2] at e
        cases e
      · cases S with
        | nil => exact absurd rfl e
        | cons e0 S =>
        have hbb := cm_b hM hs i
        obtain ⟨hk1, hk2⟩ := ys_pop hK
        rw [List.length_cons] at h4
        refine yp_c hM hs (by omega) ?_
        refine yp_ssort hS hg (by omega) (fun ar sv hga => ?_) (fun hga => ?_)
        · have hsv := (tm_sg_b hS hga).2.2.1
          have har := (tm_sg_b hS hga).1
          refine br_t (nI_pos' (by omega)) (nm_r (e' := nI S.length) (pk_m1 S.length) ⟨vp_in_nI (by omega) (by omega), ?_⟩)
          rw [nI_clamp (n := S.length) (by omega), hk1]
          have he2 : e0 < 2 := (so_B_cons hB).1
          refine nm_e (br_f (nI_pos (by omega)) (pk_eq e0 sv (fun q => ?_) (fun q => hn (fun z => ?_) K)))
          · subst q
            unfold wY_sortOf_86
            refine br_f (fun z => by rw [nI_eq (by omega) (by omega)] at z; omega) ?_
            refine yl_96 hS hg (by omega) hga (by omega) hk2 (fun K' hK' => ?_)
            rw [nI_1]
            refine ih (i + 1) (ar ++ S) K' (by omega) (by omega) (by omega) ?_ (so_B_app (tm_sg_b hS hga).2.1 (so_B_cons hB).2) hK' (fun hP => hy ⟨ar, e0, S, hga, rfl, hP⟩) (fun hP => hn (fun z => ?_))
            · rw [List.length_append]
              omega
            · obtain ⟨ar2, s2, S2, hga2, hS2, hP2⟩ := z
              rw [hga] at hga2
              obtain ⟨rfl, rfl⟩ := Prod.mk.inj (Option.some.inj hga2)
              obtain ⟨_, rfl⟩ := List.cons.inj hS2
              exact hP hP2
          · obtain ⟨ar2, s2, S2, hga2, hS2, hP2⟩ := z
            rw [hga] at hga2
            obtain ⟨_, rfl⟩ := Prod.mk.inj (Option.some.inj hga2)
            exact q (List.cons.inj hS2).1
        · refine br_f (by decide) (hn (fun z => ?_) K)
          obtain ⟨_, _, _, hga2, _⟩ := z
          rw [hga] at hga2
          cases hga2
theorem yi_sv {s : Nat} {w : List Nat} (hS : tm_SG n A Z) (p1 : tm_P (tm_sg n A Z) [s] w) : s < 2 := by
  obtain ⟨a, s2, S', hga, hSS, _⟩ := (tm_P_suf p1 (i := 0) (tm_P_ne p1))
  rw [List.drop_zero] at hSS
  have := tm_P_uniq _ _ _ hSS p1
  obtain ⟨rfl, _⟩ := List.cons.inj this
  exact (tm_sg_b hS hga).2.2.1
theorem yp_sort {post : Int32 → SY → Prop} {s a b : Nat} (hS : tm_SG n A Z) (hg : sg_Y n A Z fa fr fe) (hM : cm_M 64 89 T L m) (hs : s < 89) (hb : b ≤ (m s).length) (h48 : b ≤ 48) (hab : a ≤ b + 1)
    (h1 : ∀ sv, tm_ts (tm_sg n A Z) (((m s).take b).drop a) = some sv → ∀ K', post (nI sv) (nI n, yq, yg, ya, T, L, K', bo, bs, be, fa, fr, fe, hr, ft, hyA, vl, ee, wb)) (h0 : tm_ts (tm_sg n A Z) (((m s).take b).drop a) = none → ∀ K', post (-1) (nI n, yq, yg, ya, T, L, K', bo, bs, be, fa, fr, fe, hr, ft, hyA, vl, ee, wb)) : wpY_sortOf post (nI n, yq, yg, ya, T, L, K, bo, bs, be, fa, fr, fe, hr, ft, hyA, vl, ee, wb) (nI s) (nI a) (nI b) := by
  unfold wpY_sortOf
  dsimp only
  have hlt : ((m s).take b).length = b := by rw [List.length_take]; omega
  refine pk_lt a b (fun hlt2 => ?_) (fun hge => ?_)
  · refine nm_e ⟨b + 1, ?_⟩
    rw [wY_sortOf_23]
    dsimp only
    refine br_f (by rw [nI_leI (by omega) (by omega)]; omega) (br_f (by decide) ?_)
    have hbb := cm_b hM hs a
    have hat : ((m s).take b).drop a = tm_at (m s) a :: ((m s).take b).drop (a + 1) := by
      rw [tm_drop_cons (by omega), tm_at_take (by omega)]
    rw [hat] at h1 h0
    refine yp_c hM hs (by omega) ?_
    refine yp_ssort hS hg (by omega) (fun ar sv hga => ?_) (fun hga => ?_)
    · obtain ⟨har, hbar, hsv, _, _⟩ := tm_sg_b hS hga
      refine br_t (nI_pos' (by omega)) (nm_r (e' := nI 0) (by decide) ⟨vp_in_nI (by omega) (by omega), ?_⟩)
      rw [nI_clamp (n := 0) (by omega), cm_us]
      refine nm_e (br_t (by decide) ?_)
      unfold wY_sortOf_86
      refine br_t rfl ?_
      refine yl_96 (S := []) hS hg (by omega) hga (by rw [List.length_nil]; omega) (fun j hj => absurd hj (Nat.not_lt_zero _)) (fun K' hK' => ?_)
      rw [List.append_nil] at hK' ⊢
      rw [nI_1]
      refine yl_23 hS hg hM hs hb h48 b (a + 1) ar K' (by omega) (by omega) (by omega) (by omega) hbar hK' (fun hP => h1 sv (tm_ts_P.mpr ⟨ar, sv, [], hga, rfl, by rw [List.append_nil]; exact hP⟩)) (fun hP => h0 (tm_ts_no (fun s2 z => ?_)))
      obtain ⟨ar2, s3, S2, hga2, hS2, hP2⟩ := z
      rw [hga] at hga2
      obtain ⟨rfl, rfl⟩ := Prod.mk.inj (Option.some.inj hga2)
      obtain ⟨_, rfl⟩ := List.cons.inj hS2
      rw [List.append_nil] at hP2
      exact hP hP2
    · refine br_f (by decide) (h0 (tm_ts_no (fun s2 z => ?_)) _)
      obtain ⟨_, _, _, hga2, _⟩ := z
      rw [hga] at hga2
      cases hga2
  · refine h0 (tm_ts_no (fun s2 z => ?_)) K
    rw [List.drop_eq_nil_of_le (by omega)] at z
    exact absurd z (fun y => nomatch (show [s2] = [] from y))
/-- where the equal signs below i are -/
def ye_I (w : List Nat) (i c : Nat) (x : Int32) : Prop := (c = 0 ∧ ∀ j, j < i → tm_at w j ≠ 61) ∨ (c = 1 ∧ ∃ p, p < i ∧ x = nI p ∧ tm_at w p = 61 ∧ ∀ j, j < i → tm_at w j = 61 → j = p) ∨ (2 ≤ c ∧ ∃ p p', p < p' ∧ p' < i ∧ tm_at w p = 61 ∧ tm_at w p' = 61)
theorem ye_no {w : List Nat} {i c : Nat} {x : Int32} (h : ye_I w i c x) (hn : tm_at w i ≠ 61) : ye_I w (i + 1) c x := by
  rcases h with ⟨h1, h2⟩ | ⟨h1, p, h2, h3, h4, h5⟩ | ⟨h1, p, p', h2, h3, h4, h5⟩
  · refine Or.inl ⟨h1, fun j hj => ?_⟩
    by_cases e : j = i
    · rw [e]; exact hn
    · exact h2 j (by omega)
  · refine Or.inr (Or.inl ⟨h1, p, by omega, h3, h4, fun j hj hw => ?_⟩)
    by_cases e : j = i
    · rw [e] at hw; exact absurd hw hn
    · exact h5 j (by omega) hw
  · exact Or.inr (Or.inr ⟨h1, p, p', h2, by omega, h4, h5⟩)
theorem ye_yes {w : List Nat} {i c : Nat} {x : Int32} (h : ye_I w i c x) (hy : tm_at w i = 61) : ye_I w (i + 1) (c + 1) (nI i) := by
  rcases h with ⟨h1, h2⟩ | ⟨h1, p, h2, h3, h4, h5⟩ | ⟨h1, p, p', h2, h3, h4, h5⟩
  · refine Or.inr (Or.inl ⟨by omega, i, by omega, rfl, hy, fun j hj hw => ?_⟩)
    by_cases e : j = i
    · exact e
    · exact absurd hw (h2 j (by omega))
  · exact Or.inr (Or.inr ⟨by omega, p, i, h2, by omega, h4, hy⟩)
  · exact Or.inr (Or.inr ⟨by omega, p, p', h2, by omega, h4, h5⟩)
theorem yl_eqp {post : Int32 → SY → Prop} {s : Nat} (hS : tm_SG n A Z) (hg : sg_Y n A Z fa fr fe) (hM : cm_M 64 89 T L m) (hs : s < 89) (h48 : (m s).length ≤ 48)
    (h1 : ∀ e, eq_Q (tm_sg n A Z) (m s) e → ∀ K', post (nI e) (nI n, yq, yg, ya, T, L, K', bo, bs, be, fa, fr, fe, hr, ft, hyA, vl, ee, wb)) (h0 : (∀ e, ¬ eq_Q (tm_sg n A Z) (m s) e) → ∀ K', post (-1) (nI n, yq, yg, ya, T, L, K', bo, bs, be, fa, fr, fe, hr, ft, hyA, vl, ee, wb)) :
    ∀ f i c x, (m s).length - i < f → i ≤ (m s).length → c ≤ i → ye_I (m s) i c x → wY_eqPos_7 post (nI s) (nI n) yq yg ya T L K bo bs be fa fr fe hr ft hyA vl ee wb f x (nI c) (nI i) := by
  have g61 : tm_sg n A Z 61 = none := eq_sym hS.1
  intro f
  induction f with
  | zero => intro i c x h; omega
  | succ f ih =>
    intro i c x ha hb hc hI
    rw [wY_eqPos_7]
    dsimp only
    rw [nI_clamp (n := s) (by omega), cm_len hM hs]
    refine ⟨vp_in_nI hs (by omega), pk_le (m s).length i (fun hge => ?_) (fun hlt => ?_)⟩
    · refine pk_eq c 1 (fun e1 => ?_) (fun e1 => h0 (fun e hQ => ?_) K)
      · rcases hI with ⟨z1, _⟩ | ⟨_, p, hp1, rfl, hp3, hp4⟩ | ⟨z1, _⟩
        · omega
        · have hfail : (∀ sv, ¬ (tm_P (tm_sg n A Z) [sv] ((m s).take p) ∧ tm_P (tm_sg n A Z) [sv] ((m s).drop (p + 1)))) → ∀ K', post (-1) (nI n, yq, yg, ya, T, L, K', bo, bs, be, fa, fr, fe, hr, ft, hyA, vl, ee, wb) := by
            intro hno
            refine h0 (fun e' hQ => ?_)
            have hee := eq_Q_only g61 hQ (i := p) (by omega) hp3
            obtain ⟨_, _, sv, q3, q4⟩ := hQ
            rw [← hee] at q3 q4
            exact hno sv ⟨q3, q4⟩
          refine yp_sort (a := 0) hS hg hM hs (by omega) (by omega) (by omega) (fun s1 t1 K1 => ?_) (fun t1 K1 => ?_)
          · rw [List.drop_zero] at t1
            refine ⟨vp_in_nI hs (by omega), ?_⟩
            rw [nI_1]
            dsimp only
            rw [cm_len hM hs]
            refine yp_sort hS hg hM hs (Nat.le_refl _) h48 (by omega) (fun s2 t2 K2 => ?_) (fun t2 K2 => ?_)
            · rw [cm_tl (Nat.le_refl _)] at t2
              have p1 := tm_ts_P.mp t1
              have p2 := tm_ts_P.mp t2
              have b1 : s1 < 2 := yi_sv hS p1
              have b2 : s2 < 2 := yi_sv hS p2
              refine br_f (nI_pos (by omega)) (pk_eq s1 s2 (fun q => ?_) (fun q => hfail (fun sv z => ?_) K2))
              · subst q
                exact h1 p ⟨by omega, hp3, s1, p1, p2⟩ K2
              · have q1 := tm_P_uniq _ _ _ z.1 p1
                have q2 := tm_P_uniq _ _ _ z.2 p2
                exact q (by rw [← (List.cons.inj q1).1, (List.cons.inj q2).1])
            · rw [cm_tl (Nat.le_refl _)] at t2
              have p1 := tm_ts_P.mp t1
              have b1 : s1 < 2 := yi_sv hS p1
              refine br_f (nI_pos (by omega)) (br_f (xi_neg (by omega)) (hfail (fun sv z => ?_) K2))
              rw [tm_ts_P.mpr z.2] at t2
              cases t2
          · rw [List.drop_zero] at t1
            have hf : ∀ K', post (-1) (nI n, yq, yg, ya, T, L, K', bo, bs, be, fa, fr, fe, hr, ft, hyA, vl, ee, wb) := hfail (fun sv z => by
              rw [tm_ts_P.mpr z.1] at t1
              cases t1)
            refine ⟨vp_in_nI hs (by omega), ?_⟩
            rw [nI_1]
            dsimp only
            rw [cm_len hM hs]
            exact yp_sort hS hg hM hs (Nat.le_refl _) h48 (by omega) (fun s2 t2 K2 => br_t (by decide) (hf K2)) (fun t2 K2 => br_t (by decide) (hf K2))
        · omega
      · have hQ2 := hQ
        obtain ⟨q1, q2, _⟩ := hQ2
        rcases hI with ⟨_, z⟩ | ⟨z1, _⟩ | ⟨_, p, p', hp1, hp2, hp3, hp4⟩
        · exact z e (by omega) q2
        · exact e1 z1
        · have r1 := eq_Q_only g61 hQ (i := p) (by omega) hp3
          have r2 := eq_Q_only g61 hQ (i := p') (by omega) hp4
          omega
    · have hbb := cm_b hM hs i
      refine yp_c hM hs (by omega) ?_
      refine pk_eq (tm_at (m s) i) 61 (fun e => ?_) (fun e => ?_)
      · exact nm_r (nI_1 c) (nm_r (nI_1 i) (ih (i + 1) (c + 1) (nI i) (by omega) (by omega) (by omega) (ye_yes hI e)))
      · exact nm_r (nI_1 i) (ih (i + 1) c x (by omega) (by omega) (by omega) (ye_no hI e))
theorem yp_eqp {post : Int32 → SY → Prop} {s : Nat} (hS : tm_SG n A Z) (hg : sg_Y n A Z fa fr fe) (hM : cm_M 64 89 T L m) (hs : s < 89) (h48 : (m s).length ≤ 48)
    (h1 : ∀ e, eq_Q (tm_sg n A Z) (m s) e → ∀ K', post (nI e) (nI n, yq, yg, ya, T, L, K', bo, bs, be, fa, fr, fe, hr, ft, hyA, vl, ee, wb)) (h0 : (∀ e, ¬ eq_Q (tm_sg n A Z) (m s) e) → ∀ K', post (-1) (nI n, yq, yg, ya, T, L, K', bo, bs, be, fa, fr, fe, hr, ft, hyA, vl, ee, wb)) : wpY_eqPos post (nI n, yq, yg, ya, T, L, K, bo, bs, be, fa, fr, fe, hr, ft, hyA, vl, ee, wb) (nI s) := by
  unfold wpY_eqPos
  dsimp only
  exact ⟨(m s).length + 1, yl_eqp hS hg hM hs h48 h1 h0 _ 0 0 (-1) (by omega) (Nat.zero_le _) (Nat.le_refl _) (Or.inl ⟨rfl, fun j hj => absurd hj (Nat.not_lt_zero _)⟩)⟩
theorem yl_end {post : Int32 → Prop} {s : Nat} (hS : tm_SG n A Z) (hg : sg_Y n A Z fa fr fe) (hM : cm_M 64 89 T L m) (hs : s < 89) :
    ∀ f j S1 S2, (m s).length - j < f → j ≤ (m s).length → 1 ≤ S1.length → tm_P (tm_sg n A Z) (S1 ++ S2) ((m s).drop j) → S1.length ≤ 2 ^ 20 + 3 * j → post (nI (j + tm_en (tm_sg n A Z) S1.length ((m s).drop j))) → wY_end_5 post (nI s) (nI n) yq yg ya T L K bo bs be fa fr fe hr ft hyA vl ee wb f (nI S1.length) (nI j) := by
  have hle := cm_le hM hs
  intro f
  induction f with
  | zero => intro j S1 S2 h; omega
  | succ f ih =>
    intro j S1 S2 ha hb h1 hP hbd h
    cases S1 with
    | nil => exact absurd h1 (by decide)
    | cons e0 S1 =>
    have hj : j < (m s).length := by
      have := tm_P_ne hP
      rw [List.length_drop] at this
      omega
    rw [List.length_cons] at hbd
    rw [wY_end_5]
    dsimp only
    rw [nI_clamp (n := s) (by omega), cm_len hM hs]
    have hbb := cm_b hM hs j
    rw [tm_drop_cons hj] at hP h
    obtain ⟨a, sv, S', hga, hSS, hP'⟩ := hP
    rw [List.cons_append] at hSS
    obtain ⟨rfl, rfl⟩ := List.cons.inj hSS
    have h3 := (tm_sg_b hS hga).1
    rw [List.length_cons, tm_en_s, tm_ar_some hga] at h
    refine ⟨vp_in_nI hs (by omega), br_f (by rw [nI_leI (by omega) (by omega)]; omega) ?_⟩
    refine yp_c hM hs (by omega) ?_
    refine yp_ar hS hg (by omega) ?_
    rw [tm_ar_some hga]
    refine nm_r (e' := nI (a ++ S1).length) ?_ ?_
    · rw [List.length_cons, List.length_append, ← nI_1, ← nI_add, Int32.sub_eq_add_neg, Int32.add_assoc, ← Int32.add_assoc 1, Int32.add_comm 1 (nI a.length), Int32.add_assoc, show (1 : Int32) + -1 = 0 from by decide, Int32.add_zero, Int32.add_comm]
    · refine pk_eq (a ++ S1).length 0 (fun z => ?_) (fun z => ?_) rfl rfl (by rw [List.length_append]; omega)
      · rw [List.length_append] at z
        rw [show a.length + S1.length = 0 by omega, tm_en_0] at h
        rw [nI_1]
        exact h
      · refine nm_r (nI_1 j) (ih (j + 1) (a ++ S1) S2 (by omega) (by omega) (by omega) (by rw [List.append_assoc]; exact hP') (by rw [List.length_append]; omega) ?_)
        rw [List.length_append]
        rw [show j + (1 + tm_en (tm_sg n A Z) (a.length + S1.length) ((m s).drop (j + 1))) = j + 1 + tm_en (tm_sg n A Z) (a.length + S1.length) ((m s).drop (j + 1)) by omega] at h
        exact h
theorem yp_end {post : Int32 → Prop} {s i : Nat} {S : List Nat} (hS : tm_SG n A Z) (hg : sg_Y n A Z fa fr fe) (hM : cm_M 64 89 T L m) (hs : s < 89) (hP : tm_P (tm_sg n A Z) S (m s)) (hi : i < (m s).length) (h : post (nI (tm_e (tm_sg n A Z) (m s) i))) : wpY_end post (nI n, yq, yg, ya, T, L, K, bo, bs, be, fa, fr, fe, hr, ft, hyA, vl, ee, wb) (nI s) (nI i) := by
  unfold wpY_end
  dsimp only
  obtain ⟨a, sv, S', hga, hP1, hP2⟩ := tm_P_suf hP hi
  exact ⟨(m s).length + 1, yl_end hS hg hM hs _ i [sv] S' (by omega) (by omega) (Nat.le_refl _) hP1 (by rw [List.length_singleton]; omega) h⟩
end YB
