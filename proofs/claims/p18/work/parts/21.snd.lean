/-! 21: REPLACE and NORMALIZE keep values; texts of constructors are their values: pure -/
theorem se_R {g : tm_G} {pat : Bool} {rho : Nat → Nat} {w p0 to : List Nat} {c0 s : Nat} (hv : tm_V g) (hf : tm_P g [s] (c0 :: p0)) (ht : tm_P g [s] to) (hh : pat = false ∨ tm_vn c0 = none)
    (H : ∀ b, (pat = false → b = fun _ => none) → tm_T g w b → (∀ c, c ∈ tm_in g w b (c0 :: p0) → c ∈ w) → se_v g rho (tm_in g w b to) = se_v g rho (tm_in g w b (c0 :: p0))) : ∀ d i S, w.length - i ≤ d → tm_P g S (w.drop i) → se_v g rho (tm_R g pat w (c0 :: p0) to i).2 = se_v g rho (w.drop i) := by
  intro d
  induction d with
  | zero =>
    intro i S h hP
    rw [tm_R_out (by omega), List.drop_eq_nil_of_le (by omega)]
  | succ d ih =>
    intro i S h hP
    by_cases hi : i < w.length
    · have he := tm_e_gt g hi
      have hP0 := hP
      rw [tm_drop_cons hi] at hP
      obtain ⟨a1, s1, S', hg1, rfl, hP1⟩ := hP
      cases hm : tm_mt g pat w (c0 :: p0) i (fun _ => none) with
      | some r =>
        rw [tm_R_hit hi hm]
        dsimp only
        obtain ⟨_, hc⟩ := tm_mt_inv hm
        have hat : tm_at w i = c0 := by
          rcases hc with ⟨v, hp, hvc, _⟩ | ⟨_, hat, _⟩
          · rcases hh with hh | hh
            · rw [hh] at hp; cases hp
            · rw [hh] at hvc; cases hvc
          · exact hat
        have hf' := hf
        obtain ⟨a, s2, S2, hg, hS, _⟩ := hf'
        obtain ⟨rfl, _⟩ := List.cons.inj hS
        rw [hat, hg] at hg1
        obtain ⟨rfl, rfl⟩ := Prod.mk.inj (Option.some.inj hg1)
        have hT := tm_mt_ty hv _ [s] S' i _ r hf hP0 tm_T_none hm
        have hr := (tm_sub_P hP0).2
        have hend : r.1 = tm_e g w i := tm_mt_end hv _ _ _ _ _ hf hm
        obtain ⟨_, hd⟩ := se_mt _ _ _ _ (Or.inr rfl) hm
        rw [hend] at hd
        have hb : pat = false → r.2 = fun _ => none := by
          intro z
          subst z
          exact tm_mt_fix _ _ _ _ hm
        have hsub : ∀ c, c ∈ tm_in g w r.2 (c0 :: p0) → c ∈ w := by
          intro c hc
          apply List.mem_of_mem_drop (i := i)
          rw [hd]
          exact List.mem_append_left _ hc
        rw [(se_v_app rho _ _ _ (tm_in_ty hT _ _ ht)).1, ih _ _ (by omega) hr, H r.2 hb hT hsub, ← (se_v_app rho _ _ _ (tm_in_ty hT _ _ hf)).1, ← hd]
      | none =>
        rw [tm_R_miss hi hm, tm_drop_cons hi]
        dsimp only
        rw [se_v_cons, se_v_cons, ih _ _ (by omega) hP1]
    · rw [tm_R_out (by omega), List.drop_eq_nil_of_le (by omega)]
/-- in FIXED mode -/
theorem se_Rf {g : tm_G} {rho : Nat → Nat} {w fr to : List Nat} {s : Nat} {S : List Nat} (hv : tm_V g) (hf : tm_P g [s] fr) (ht : tm_P g [s] to) (hP : tm_P g S w) (H : (∀ c, c ∈ fr → c ∈ w) → se_v g rho to = se_v g rho fr) : se_v g rho (tm_R g false w fr to 0).2 = se_v g rho w := by
  cases fr with
  | nil => exact absurd hf (fun z => nomatch (show [s] = [] from z))
  | cons c0 p0 =>
    have := se_R (rho := rho) (w := w) hv hf ht (Or.inl rfl) (fun b hb _ hs => by
      rw [hb rfl, tm_in_none, tm_in_none]
      rw [hb rfl, tm_in_none] at hs
      exact H hs) w.length 0 S (Nat.sub_le _ _) (by rw [List.drop_zero]; exact hP)
    rw [List.drop_zero] at this
    exact this
/-- in PATTERN mode -/
theorem se_Rp {g : tm_G} {rho : Nat → Nat} {w fr to : List Nat} {s : Nat} {S : List Nat} (hv : tm_V g) (hf : tm_P g [s] fr) (ht : tm_P g [s] to) (hP : tm_P g S w) (hn : ¬ (fr.length = 1 ∧ tm_vn (tm_at fr 0) ≠ none)) (H : ∀ rh, se_v g rh to = se_v g rh fr) : se_v g rho (tm_R g true w fr to 0).2 = se_v g rho w := by
  obtain ⟨c0, p0, rfl, hc⟩ := tm_head hv hf hn
  have := se_R (pat := true) (rho := rho) (w := w) hv hf ht (Or.inr hc) (fun b _ hT _ => by
    rw [se_in hv hT, se_in hv hT]
    exact H _) w.length 0 S (Nat.sub_le _ _) (by rw [List.drop_zero]; exact hP)
  rw [List.drop_zero] at this
  exact this
/-- the rules are true -/
def se_RV (g : tm_G) (R : Nat → List Nat) : Prop := ∀ f k, f < 8 → k < 2 → R (4 * f + 2 * k) ≠ [] → (∀ rho, se_v g rho (R (4 * f + 2 * k + 1)) = se_v g rho (R (4 * f + 2 * k))) ∧ (∀ c, c ∈ R (4 * f + 2 * k + 1) → tm_vn c ≠ none → c ∈ R (4 * f + 2 * k))
theorem se_st {g : tm_G} {R : Nat → List Nat} {w S : List Nat} {i : Nat} {rho : Nat → Nat} (hG : tm_GS g) (hR : tm_RU g R) (hV : se_RV g R) (hP : tm_P g S w) (hF : tm_FC R w) (hr : tm_rd w i) : se_v g rho (tm_st g R w i) = se_v g rho w := by
  obtain ⟨r, hm, hne, hst, _, _⟩ := tm_st_ok hG hR hP hF hr
  have hl := tm_rd_lt hr
  have hfn : tm_fn (tm_at w i) := hr.1
  obtain ⟨k, hk⟩ : ∃ k, tm_kd (tm_at w (i + 1)) = some k := Option.ne_none_iff_exists'.mp hr.2
  have hk2 : k < 2 := by
    have := tm_kd_c hk
    omega
  have hri : tm_ri w i = 4 * (tm_at w i - 70) + 2 * k := by
    unfold tm_ri
    rw [hk]
    rfl
  rw [hri] at hm hne hst
  have hval := (hV (tm_at w i - 70) k (by omega) hk2 hne).1
  obtain ⟨K, vs, s, hl1, hkK, hvs, hnd, hPl, hPr, hFr⟩ := hR (tm_at w i - 70) k (by omega) hk2 hne
  obtain ⟨af, sf, S1, hgf, hPf, hP1⟩ := tm_P_suf hP (i := i) (by omega)
  have hPl0 := hPl
  rw [hl1, show 70 + (tm_at w i - 70) = tm_at w i by omega] at hPl
  obtain ⟨a2, s2, S2, hg2, hS2, hP2⟩ := hPl
  obtain ⟨rfl, rfl⟩ := List.cons.inj hS2
  rw [hgf] at hg2
  obtain ⟨rfl, rfl⟩ := Prod.mk.inj (Option.some.inj hg2)
  have hT := tm_mt_ty hG.1 _ _ S1 i _ r hPl0 hPf tm_T_none hm
  have hend : r.1 = tm_e g w i := tm_mt_end hG.1 _ _ _ _ _ hPl0 hm
  obtain ⟨_, hd⟩ := se_mt _ _ _ _ (Or.inl rfl) hm
  rw [hend] at hd
  have hw : w = w.take i ++ (tm_in g w r.2 (R (4 * (tm_at w i - 70) + 2 * k)) ++ w.drop (tm_e g w i)) := by
    rw [← hd, List.take_append_drop]
  have e1 : se_v g rho (tm_st g R w i) = se_v g rho (w.take i ++ (tm_in g w r.2 (R (4 * (tm_at w i - 70) + 2 * k)) ++ w.drop (tm_e g w i))) := by
    rw [hst]
    apply se_v_ctx
    rw [(se_v_app rho _ _ _ (tm_in_ty hT _ _ hPr)).1, (se_v_app rho _ _ _ (tm_in_ty hT _ _ hPl0)).1, se_in hG.1 hT, se_in hG.1 hT, hval]
  rw [e1, ← hw]
theorem se_nz {g : tm_G} {R : Nat → List Nat} {S : List Nat} {rho : Nat → Nat} (hG : tm_GS g) (hR : tm_RU g R) (hV : se_RV g R) (n : Nat) : ∀ w w', tm_P g S w → tm_FC R w → tm_nz g R n w = some w' → se_v g rho w' = se_v g rho w ∧ tm_rx w' w'.length = none := by
  induction n with
  | zero =>
    intro w w' hP hF h
    cases hx : tm_rx w w.length with
    | none =>
      rw [tm_nz_no hx] at h
      rw [← Option.some.inj h]
      exact ⟨rfl, hx⟩
    | some i =>
      rw [tm_nz_0 hx] at h
      cases h
  | succ n ih =>
    intro w w' hP hF h
    cases hx : tm_rx w w.length with
    | none =>
      rw [tm_nz_no hx] at h
      rw [← Option.some.inj h]
      exact ⟨rfl, hx⟩
    | some i =>
      rw [tm_nz_s hx] at h
      have hrd := (tm_rx_lt _ _ hx).2
      obtain ⟨r, _, _, _, h1, h2⟩ := tm_st_ok hG hR hP hF hrd
      by_cases h3 : (tm_st g R w i).length ≤ 48
      · rw [if_pos h3] at h
        obtain ⟨i1, i2⟩ := ih _ _ h1 h2 h
        exact ⟨i1.trans (se_st hG hR hV hP hF hrd), i2⟩
      · rw [if_neg h3] at h
        cases h
theorem se_N {g : tm_G} {R : Nat → List Nat} {S : List Nat} (hG : tm_GS g) (hR : tm_RU g R) (hV : se_RV g R) {w w' : List Nat} (hP : tm_P g S w) (hF : tm_FC R w) (h : tm_N g R w = some w') : (∀ rho, se_v g rho w' = se_v g rho w) ∧ tm_rx w' w'.length = none := by
  unfold tm_N at h
  by_cases hl : w.length ≤ 48
  · rw [if_pos hl] at h
    exact ⟨fun rho => (se_nz (rho := rho) hG hR hV 128 w w' hP hF h).1, (se_nz (rho := fun _ => 0) hG hR hV 128 w w' hP hF h).2⟩
  · rw [if_neg hl] at h
    cases h
/-! a text without variables and without a redex is made of constructors -/
theorem se_rx_no {w : List Nat} (n : Nat) : tm_rx w n = none → ∀ i, i < n → ¬ tm_rd w i := by
  induction n with
  | zero => exact fun _ i h => absurd h (Nat.not_lt_zero i)
  | succ n ih =>
    intro h i hi
    rw [tm_rx] at h
    by_cases hr : tm_rd w n
    · rw [if_pos hr] at h
      cases h
    · rw [if_neg hr] at h
      by_cases e : i = n
      · rw [e]
        exact hr
      · exact ih h i (by omega)
theorem se_cons_i {n : Nat} {A : Nat → List Nat} {Z : Nat → Nat} (hS : tm_SG n A Z) {w S : List Nat} (hP : tm_P (tm_sg n A Z) S w) (hg : ∀ c, c ∈ w → tm_vn c = none) (hx : tm_rx w w.length = none) : ∀ d i, w.length - i ≤ d → i < w.length → tm_kd (tm_at w i) ≠ none := by
  intro d
  induction d with
  | zero =>
    intro i h hi
    omega
  | succ d ih =>
    intro i h hi
    obtain ⟨a, s, S', hgi, _, hP1⟩ := tm_P_suf hP hi
    have hvn := hg _ (tm_at_mem hi)
    have hnr := se_rx_no _ hx i hi
    have hn := hS.1
    have hfun : ¬ tm_fn (tm_at w i) := by
      intro hf
      have hne := (tm_sg_GS hS).2.2 _ _ _ hf hgi
      have hl : i + 1 < w.length := by
        apply Nat.lt_of_not_le
        intro hle
        rw [List.drop_eq_nil_of_le hle] at hP1
        have hP1' : a ++ S' = [] := hP1
        exact hne (List.append_eq_nil_iff.mp hP1').1
      exact hnr ⟨hf, ih (i + 1) (by omega) hl⟩
    rcases tm_sg_c n A Z (tm_at w i) hn with ⟨e, _⟩ | ⟨e, _⟩ | ⟨e, _⟩ | ⟨e, _⟩ | ⟨e, _⟩ | ⟨e, _⟩ | ⟨f, hf, e, _⟩ | ⟨q, _⟩
    · rw [e]; decide
    · rw [e]; decide
    · rw [e]; decide
    · rw [e]; decide
    · exfalso
      unfold tm_vn at hvn
      rw [if_pos e] at hvn
      cases hvn
    · exfalso
      unfold tm_vn at hvn
      rw [if_neg (by omega), if_pos e] at hvn
      cases hvn
    · exact absurd (show tm_fn (tm_at w i) by omega) hfun
    · rw [hgi] at q
      cases q
/-- the values of constructors -/
theorem se_o90 {n : Nat} {A : Nat → List Nat} {Z : Nat → Nat} {rho : Nat → Nat} {st : List Nat} : se_op (tm_sg n A Z) rho 90 st = 0 :: st := rfl
theorem se_o78 {n : Nat} {A : Nat → List Nat} {Z : Nat → Nat} {rho : Nat → Nat} {st : List Nat} : se_op (tm_sg n A Z) rho 78 st = 0 :: st := rfl
theorem se_o83 {n : Nat} {A : Nat → List Nat} {Z : Nat → Nat} {rho : Nat → Nat} {x : Nat} {st : List Nat} : se_op (tm_sg n A Z) rho 83 (x :: st) = (x + 1) :: st := rfl
theorem se_o67 {n : Nat} {A : Nat → List Nat} {Z : Nat → Nat} {rho : Nat → Nat} {x y : Nat} {st : List Nat} : se_op (tm_sg n A Z) rho 67 (x :: y :: st) = se_co x y :: st := rfl
theorem se_l1 {l : List Nat} {k : Nat} (h : l.length = k + 1) : ∃ x t, l = x :: t ∧ t.length = k := by
  cases l with
  | nil => cases h
  | cons x t => exact ⟨x, t, rfl, by rw [List.length_cons] at h; omega⟩
theorem se_uniq {n : Nat} {A : Nat → List Nat} {Z : Nat → Nat} {rho : Nat → Nat} (u : List Nat) : ∀ S u', (∀ c, c ∈ u → tm_kd c ≠ none) → (∀ c, c ∈ u' → tm_kd c ≠ none) → tm_P (tm_sg n A Z) S u → tm_P (tm_sg n A Z) S u' → se_v (tm_sg n A Z) rho u = se_v (tm_sg n A Z) rho u' → u = u' := by
  induction u with
  | nil =>
    intro S u' _ _ h1 h2 _
    have h1' : S = [] := h1
    subst h1'
    cases u' with
    | nil => rfl
    | cons c u' =>
      obtain ⟨a, s, S', _, e, _⟩ := h2
      cases e
  | cons c u ih =>
    intro S u' k1 k2 h1 h2 he
    obtain ⟨a, s, S', hg, rfl, hP⟩ := h1
    cases u' with
    | nil =>
      have h2' : s :: S' = [] := h2
      cases h2'
    | cons d u' =>
      obtain ⟨a2, s2, S2, hg2, hS2, hP2⟩ := h2
      obtain ⟨rfl, rfl⟩ := List.cons.inj hS2
      have hk1 := k1 c List.mem_cons_self
      have hk2 := k2 d List.mem_cons_self
      have j1 : ∀ e, e ∈ u → tm_kd e ≠ none := fun e he => k1 e (List.mem_cons_of_mem _ he)
      have j2 : ∀ e, e ∈ u' → tm_kd e ≠ none := fun e he => k2 e (List.mem_cons_of_mem _ he)
      have l1 := se_v_len rho hP
      have l2 := se_v_len rho hP2
      rw [se_v_cons, se_v_cons] at he
      obtain ⟨x, hx⟩ := Option.ne_none_iff_exists'.mp hk1
      obtain ⟨y, hy⟩ := Option.ne_none_iff_exists'.mp hk2
      have key : c = d → a = a2 → se_v (tm_sg n A Z) rho u = se_v (tm_sg n A Z) rho u' → c :: u = d :: u' := by
        intro e1 e2 e3
        subst e1
        subst e2
        rw [ih _ u' j1 j2 hP hP2 e3]
      rcases tm_kd_c hx with ⟨_, e | e⟩ | ⟨_, e | e⟩ <;> rcases tm_kd_c hy with ⟨_, e' | e'⟩ | ⟨_, e' | e'⟩ <;> subst e <;> subst e'
      · rw [tm_sg_90] at hg hg2
        obtain ⟨rfl, rfl⟩ := Prod.mk.inj (Option.some.inj hg)
        obtain ⟨rfl, _⟩ := Prod.mk.inj (Option.some.inj hg2)
        rw [se_o90, se_o90] at he
        exact key rfl rfl (List.cons.inj he).2
      · rw [tm_sg_90] at hg
        rw [tm_sg_78] at hg2
        have q1 := (Prod.mk.inj (Option.some.inj hg)).2
        have q2 := (Prod.mk.inj (Option.some.inj hg2)).2
        exfalso
        omega
      · rw [tm_sg_90] at hg
        rw [tm_sg_83] at hg2
        obtain ⟨rfl, rfl⟩ := Prod.mk.inj (Option.some.inj hg)
        obtain ⟨rfl, _⟩ := Prod.mk.inj (Option.some.inj hg2)
        obtain ⟨b, t, eb, _⟩ := se_l1 (k := S'.length) (show (se_v (tm_sg n A Z) rho u').length = S'.length + 1 from l2)
        rw [eb, se_o90, se_o83] at he
        have := (List.cons.inj he).1
        exfalso
        omega
      · rw [tm_sg_90] at hg
        rw [tm_sg_67] at hg2
        have q1 := (Prod.mk.inj (Option.some.inj hg)).2
        have q2 := (Prod.mk.inj (Option.some.inj hg2)).2
        exfalso
        omega
      · rw [tm_sg_78] at hg
        rw [tm_sg_90] at hg2
        have q1 := (Prod.mk.inj (Option.some.inj hg)).2
        have q2 := (Prod.mk.inj (Option.some.inj hg2)).2
        exfalso
        omega
      · rw [tm_sg_78] at hg hg2
        obtain ⟨rfl, rfl⟩ := Prod.mk.inj (Option.some.inj hg)
        obtain ⟨rfl, _⟩ := Prod.mk.inj (Option.some.inj hg2)
        rw [se_o78, se_o78] at he
        exact key rfl rfl (List.cons.inj he).2
      · rw [tm_sg_78] at hg
        rw [tm_sg_83] at hg2
        have q1 := (Prod.mk.inj (Option.some.inj hg)).2
        have q2 := (Prod.mk.inj (Option.some.inj hg2)).2
        exfalso
        omega
      · rw [tm_sg_78] at hg
        rw [tm_sg_67] at hg2
        obtain ⟨rfl, rfl⟩ := Prod.mk.inj (Option.some.inj hg)
        obtain ⟨rfl, _⟩ := Prod.mk.inj (Option.some.inj hg2)
        obtain ⟨b, t, eb, lt⟩ := se_l1 (k := S'.length + 1) (show (se_v (tm_sg n A Z) rho u').length = S'.length + 1 + 1 from l2)
        obtain ⟨b2, t2, eb2, _⟩ := se_l1 lt
        rw [eb, eb2, se_o78, se_o67] at he
        have h3 := (List.cons.inj he).1
        have := se_co_lt b b2
        exfalso
        omega
      · rw [tm_sg_83] at hg
        rw [tm_sg_90] at hg2
        obtain ⟨rfl, rfl⟩ := Prod.mk.inj (Option.some.inj hg)
        obtain ⟨rfl, _⟩ := Prod.mk.inj (Option.some.inj hg2)
        obtain ⟨b, t, eb, _⟩ := se_l1 (k := S'.length) (show (se_v (tm_sg n A Z) rho u).length = S'.length + 1 from l1)
        rw [eb, se_o90, se_o83] at he
        have := (List.cons.inj he).1
        exfalso
        omega
      · rw [tm_sg_83] at hg
        rw [tm_sg_78] at hg2
        have q1 := (Prod.mk.inj (Option.some.inj hg)).2
        have q2 := (Prod.mk.inj (Option.some.inj hg2)).2
        exfalso
        omega
      · rw [tm_sg_83] at hg hg2
        obtain ⟨rfl, rfl⟩ := Prod.mk.inj (Option.some.inj hg)
        obtain ⟨rfl, _⟩ := Prod.mk.inj (Option.some.inj hg2)
        obtain ⟨b, t, eb, _⟩ := se_l1 (k := S'.length) (show (se_v (tm_sg n A Z) rho u).length = S'.length + 1 from l1)
        obtain ⟨b', t', eb', _⟩ := se_l1 (k := S'.length) (show (se_v (tm_sg n A Z) rho u').length = S'.length + 1 from l2)
        rw [eb, eb', se_o83, se_o83] at he
        obtain ⟨h3, h4⟩ := List.cons.inj he
        refine key rfl rfl ?_
        rw [eb, eb', h4, show b = b' by omega]
      · rw [tm_sg_83] at hg
        rw [tm_sg_67] at hg2
        have q1 := (Prod.mk.inj (Option.some.inj hg)).2
        have q2 := (Prod.mk.inj (Option.some.inj hg2)).2
        exfalso
        omega
      · rw [tm_sg_67] at hg
        rw [tm_sg_90] at hg2
        have q1 := (Prod.mk.inj (Option.some.inj hg)).2
        have q2 := (Prod.mk.inj (Option.some.inj hg2)).2
        exfalso
        omega
      · rw [tm_sg_67] at hg
        rw [tm_sg_78] at hg2
        obtain ⟨rfl, rfl⟩ := Prod.mk.inj (Option.some.inj hg)
        obtain ⟨rfl, _⟩ := Prod.mk.inj (Option.some.inj hg2)
        obtain ⟨b, t, eb, lt⟩ := se_l1 (k := S'.length + 1) (show (se_v (tm_sg n A Z) rho u).length = S'.length + 1 + 1 from l1)
        obtain ⟨b2, t2, eb2, _⟩ := se_l1 lt
        rw [eb, eb2, se_o78, se_o67] at he
        have h3 := (List.cons.inj he).1
        have := se_co_lt b b2
        exfalso
        omega
      · rw [tm_sg_67] at hg
        rw [tm_sg_83] at hg2
        have q1 := (Prod.mk.inj (Option.some.inj hg)).2
        have q2 := (Prod.mk.inj (Option.some.inj hg2)).2
        exfalso
        omega
      · rw [tm_sg_67] at hg hg2
        obtain ⟨rfl, rfl⟩ := Prod.mk.inj (Option.some.inj hg)
        obtain ⟨rfl, _⟩ := Prod.mk.inj (Option.some.inj hg2)
        obtain ⟨b, t, eb, lt⟩ := se_l1 (k := S'.length + 1) (show (se_v (tm_sg n A Z) rho u).length = S'.length + 1 + 1 from l1)
        obtain ⟨b2, t2, eb2, _⟩ := se_l1 lt
        obtain ⟨b', t', eb', lt'⟩ := se_l1 (k := S'.length + 1) (show (se_v (tm_sg n A Z) rho u').length = S'.length + 1 + 1 from l2)
        obtain ⟨b2', t2', eb2', _⟩ := se_l1 lt'
        rw [eb, eb2, eb', eb2', se_o67, se_o67] at he
        obtain ⟨h3, h4⟩ := List.cons.inj he
        obtain ⟨h5, h6⟩ := se_co_inj b b' h3
        refine key rfl rfl ?_
        rw [eb, eb2, eb', eb2', h4, h5, h6]
