/-! 20: what a text means: lists of naturals coded as naturals, the four functions, values of texts by a stack: pure -/
def se_co (h t : Nat) : Nat := 2 ^ h * (2 * t + 1)
theorem se_co_0 (t : Nat) : se_co 0 t = 2 * t + 1 := by
  unfold se_co
  rw [Nat.pow_zero, Nat.one_mul]
theorem se_co_s (h t : Nat) : se_co (h + 1) t = 2 * se_co h t := by
  unfold se_co
  rw [Nat.pow_succ, Nat.mul_comm (2 ^ h) 2, Nat.mul_assoc]
theorem se_co_lt (h t : Nat) : t < se_co h t := by
  induction h with
  | zero =>
    rw [se_co_0]
    omega
  | succ h ih =>
    rw [se_co_s]
    omega
theorem se_co_inj {t t' : Nat} (h : Nat) : ∀ h', se_co h t = se_co h' t' → h = h' ∧ t = t' := by
  induction h with
  | zero =>
    intro h' e
    cases h' with
    | zero =>
      rw [se_co_0, se_co_0] at e
      exact ⟨rfl, by omega⟩
    | succ h' =>
      rw [se_co_0, se_co_s] at e
      exfalso
      omega
  | succ h ih =>
    intro h' e
    cases h' with
    | zero =>
      rw [se_co_0, se_co_s] at e
      exfalso
      omega
    | succ h' =>
      rw [se_co_s, se_co_s] at e
      obtain ⟨e1, e2⟩ := ih h' (by omega)
      exact ⟨by omega, e2⟩
theorem se_co_sur (d : Nat) : ∀ n, n ≤ d → 0 < n → ∃ h t, se_co h t = n := by
  induction d with
  | zero =>
    intro n h1 h2
    exfalso
    omega
  | succ d ih =>
    intro n h1 h2
    by_cases ho : n % 2 = 1
    · refine ⟨0, n / 2, ?_⟩
      rw [se_co_0]
      omega
    · obtain ⟨h, t, e⟩ := ih (n / 2) (by omega) (by omega)
      refine ⟨h + 1, t, ?_⟩
      rw [se_co_s, e]
      omega
def se_en : List Nat → Nat
  | [] => 0
  | h :: t => se_co h (se_en t)
theorem se_en_inj (l : List Nat) : ∀ l', se_en l = se_en l' → l = l' := by
  induction l with
  | nil =>
    intro l' e
    cases l' with
    | nil => rfl
    | cons h t =>
      exfalso
      have e' : 0 = se_co h (se_en t) := e
      have := se_co_lt h (se_en t)
      omega
  | cons h t ih =>
    intro l' e
    cases l' with
    | nil =>
      exfalso
      have e' : se_co h (se_en t) = 0 := e
      have := se_co_lt h (se_en t)
      omega
    | cons h' t' =>
      have e' : se_co h (se_en t) = se_co h' (se_en t') := e
      obtain ⟨e1, e2⟩ := se_co_inj h h' e'
      rw [e1, ih t' e2]
theorem se_en_sur (d : Nat) : ∀ n, n ≤ d → ∃ l, se_en l = n := by
  induction d with
  | zero =>
    intro n h
    refine ⟨[], ?_⟩
    show 0 = n
    omega
  | succ d ih =>
    intro n h
    by_cases h0 : n = 0
    · exact ⟨[], h0.symm⟩
    · obtain ⟨a, t, e⟩ := se_co_sur n n (Nat.le_refl _) (by omega)
      have := se_co_lt a t
      obtain ⟨l, hl⟩ := ih t (by omega)
      refine ⟨a :: l, ?_⟩
      show se_co a (se_en l) = n
      rw [hl, e]
noncomputable def se_de (n : Nat) : List Nat := Classical.choose (se_en_sur n n (Nat.le_refl n))
theorem se_en_de (n : Nat) : se_en (se_de n) = n := Classical.choose_spec (se_en_sur n n (Nat.le_refl n))
theorem se_de_en (l : List Nat) : se_de (se_en l) = l := se_en_inj _ _ (se_en_de _)
theorem se_de_0 : se_de 0 = [] := se_de_en []
theorem se_de_co (h t : Nat) : se_de (se_co h t) = h :: se_de t := by
  have e : se_en (h :: se_de t) = se_co h t := by
    show se_co h (se_en (se_de t)) = se_co h t
    rw [se_en_de]
  rw [← e, se_de_en]
/-- what a symbol does with its arguments' values -/
noncomputable def se_f (c : Nat) (a : List Nat) : Nat :=
  if c = 83 then tm_at a 0 + 1 else if c = 67 then se_co (tm_at a 0) (tm_at a 1)
  else if c = 70 then tm_at a 0 + tm_at a 1 else if c = 71 then se_en (se_de (tm_at a 0) ++ se_de (tm_at a 1))
  else if c = 72 then (se_de (tm_at a 0)).length else if c = 73 then se_en (se_de (tm_at a 0)).reverse else 0
noncomputable def se_h (g : tm_G) (rho : Nat → Nat) (c : Nat) (st : List Nat) : Nat := match tm_vn c with
  | some v => rho v
  | none => se_f c (st.take (tm_ar g c))
noncomputable def se_op (g : tm_G) (rho : Nat → Nat) (c : Nat) (st : List Nat) : List Nat := se_h g rho c st :: st.drop (tm_ar g c)
theorem se_h_v {g : tm_G} {rho : Nat → Nat} {c v : Nat} {st : List Nat} (h : tm_vn c = some v) : se_h g rho c st = rho v := by
  unfold se_h
  rw [h]
theorem se_h_n {g : tm_G} {rho : Nat → Nat} {c : Nat} {st : List Nat} (h : tm_vn c = none) : se_h g rho c st = se_f c (st.take (tm_ar g c)) := by
  unfold se_h
  rw [h]
/-- the values of the terms that a text is -/
noncomputable def se_v (g : tm_G) (rho : Nat → Nat) (w : List Nat) : List Nat := w.foldr (se_op g rho) []
theorem se_v_nil (g : tm_G) (rho : Nat → Nat) : se_v g rho [] = [] := rfl
theorem se_v_cons (g : tm_G) (rho : Nat → Nat) (c : Nat) (w : List Nat) : se_v g rho (c :: w) = se_op g rho c (se_v g rho w) := rfl
theorem se_v_app {g : tm_G} (rho : Nat → Nat) (z : List Nat) (u : List Nat) : ∀ S, tm_P g S u → se_v g rho (u ++ z) = se_v g rho u ++ se_v g rho z ∧ (se_v g rho u).length = S.length := by
  induction u with
  | nil =>
    intro S h
    have h' : S = [] := h
    subst h'
    exact ⟨rfl, rfl⟩
  | cons c u ih =>
    intro S h
    obtain ⟨a, s, S', hg, rfl, hP⟩ := h
    obtain ⟨e, l⟩ := ih _ hP
    rw [List.length_append] at l
    rw [List.cons_append, se_v_cons, se_v_cons, e]
    constructor
    · unfold se_op
      rw [tm_ar_some hg, List.drop_append_of_le_length (by omega), List.cons_append]
      congr 1
      cases hv : tm_vn c with
      | some v => rw [se_h_v hv, se_h_v hv]
      | none => rw [se_h_n hv, se_h_n hv, tm_ar_some hg, List.take_append_of_le_length (by omega)]
    · unfold se_op
      rw [List.length_cons, List.length_cons, tm_ar_some hg, List.length_drop]
      omega
theorem se_v_len {g : tm_G} (rho : Nat → Nat) {u S : List Nat} (h : tm_P g S u) : (se_v g rho u).length = S.length := (se_v_app rho [] u S h).2
theorem se_one {l : List Nat} (h : l.length = 1) : l = [tm_at l 0] := by
  cases l with
  | nil => cases h
  | cons a l =>
    cases l with
    | nil => rfl
    | cons b l =>
      rw [List.length_cons, List.length_cons] at h
      omega
theorem se_v_one {g : tm_G} (rho : Nat → Nat) {u : List Nat} {s : Nat} (h : tm_P g [s] u) : se_v g rho u = [tm_at (se_v g rho u) 0] := se_one (se_v_len rho h)
theorem se_v_ctx {g : tm_G} {rho : Nat → Nat} {z z' : List Nat} (h : se_v g rho z = se_v g rho z') (x : List Nat) : se_v g rho (x ++ z) = se_v g rho (x ++ z') := by
  induction x with
  | nil => exact h
  | cons c x ih => rw [List.cons_append, List.cons_append, se_v_cons, se_v_cons, ih]
theorem se_op_ext {g : tm_G} {rho rho' : Nat → Nat} {c : Nat} (st : List Nat) (h : ∀ v, tm_vn c = some v → rho v = rho' v) : se_op g rho c st = se_op g rho' c st := by
  unfold se_op
  congr 1
  cases hv : tm_vn c with
  | some v => rw [se_h_v hv, se_h_v hv, h v hv]
  | none => rw [se_h_n hv, se_h_n hv]
theorem se_op_var {g : tm_G} (hV : tm_V g) {rho : Nat → Nat} {c v : Nat} (st : List Nat) (h : tm_vn c = some v) : se_op g rho c st = rho v :: st := by
  unfold se_op
  rw [se_h_v h, tm_V_ar hV h, List.drop_zero]
theorem se_v_ext {g : tm_G} {rho rho' : Nat → Nat} (w : List Nat) : (∀ c, c ∈ w → ∀ v, tm_vn c = some v → rho v = rho' v) → se_v g rho w = se_v g rho' w := by
  induction w with
  | nil => exact fun _ => rfl
  | cons c w ih =>
    intro h
    rw [se_v_cons, se_v_cons, ih (fun d hd => h d (List.mem_cons_of_mem _ hd)), se_op_ext _ (h c List.mem_cons_self)]
/-- a text for each variable -/
theorem se_fm {g : tm_G} (hV : tm_V g) {rho rho' : Nat → Nat} {f : Nat → List Nat} (w : List Nat) : (∀ c, c ∈ w → (f c = [c] ∧ ∀ v, tm_vn c = some v → rho v = rho' v) ∨ (∃ v s, tm_vn c = some v ∧ tm_P g [s] (f c) ∧ se_v g rho (f c) = [rho' v])) → se_v g rho (w.flatMap f) = se_v g rho' w := by
  induction w with
  | nil => exact fun _ => rfl
  | cons c w ih =>
    intro h
    have hi := ih (fun d hd => h d (List.mem_cons_of_mem _ hd))
    rw [List.flatMap_cons, se_v_cons]
    rcases h c List.mem_cons_self with ⟨e, hr⟩ | ⟨v, s, hv, hP, e⟩
    · rw [e, List.cons_append, List.nil_append, se_v_cons, hi]
      exact se_op_ext _ hr
    · rw [(se_v_app rho _ _ _ hP).1, e, hi, se_op_var hV _ hv]
      rfl
theorem se_in_fm (g : tm_G) (w : List Nat) (b : Nat → Option Nat) (p : List Nat) : tm_in g w b p = p.flatMap (tm_i1 g w b) := by
  induction p with
  | nil => rfl
  | cons c p ih =>
    show tm_i1 g w b c ++ tm_in g w b p = _
    rw [ih, List.flatMap_cons]
/-- the values that a match gives the pattern's variables -/
noncomputable def se_rb (g : tm_G) (rho : Nat → Nat) (w : List Nat) (b : Nat → Option Nat) (v : Nat) : Nat := match b v with
  | some q => tm_at (se_v g rho (tm_sub g w q)) 0
  | none => rho v
theorem se_rb_s {g : tm_G} {rho : Nat → Nat} {w : List Nat} {b : Nat → Option Nat} {v q : Nat} (h : b v = some q) : se_rb g rho w b v = tm_at (se_v g rho (tm_sub g w q)) 0 := by
  unfold se_rb
  rw [h]
theorem se_rb_n {g : tm_G} {rho : Nat → Nat} {w : List Nat} {b : Nat → Option Nat} {v : Nat} (h : b v = none) : se_rb g rho w b v = rho v := by
  unfold se_rb
  rw [h]
theorem se_in {g : tm_G} (hV : tm_V g) {rho : Nat → Nat} {w : List Nat} {b : Nat → Option Nat} (hT : tm_T g w b) (p : List Nat) : se_v g rho (tm_in g w b p) = se_v g (se_rb g rho w b) p := by
  rw [se_in_fm]
  apply se_fm hV
  intro c _
  cases hv : tm_vn c with
  | none => exact Or.inl ⟨tm_i1_n hv, fun v z => nomatch z⟩
  | some v =>
    cases hb : b v with
    | none =>
      refine Or.inl ⟨tm_i1_u hv hb, fun v' z => ?_⟩
      rw [← Option.some.inj z, se_rb_n hb]
    | some q =>
      obtain ⟨s, hg, hP⟩ := hT c v q hv hb
      refine Or.inr ⟨v, s, rfl, ?_, ?_⟩
      · rw [tm_i1_b hv hb]
        exact hP
      · rw [tm_i1_b hv hb, se_rb_s hb]
        exact se_v_one rho hP
theorem se_sub_app (g : tm_G) (w : List Nat) (q : Nat) : w.drop q = tm_sub g w q ++ w.drop (tm_e g w q) := by
  unfold tm_sub tm_e
  rw [← List.drop_drop, List.take_append_drop]
theorem se_mt {g : tm_G} {pat : Bool} {w : List Nat} (p : List Nat) : ∀ q b r, (pat = true ∨ b = fun _ => none) → tm_mt g pat w p q b = some r → (∀ v q0, b v = some q0 → r.2 v = some q0) ∧ w.drop q = tm_in g w r.2 p ++ w.drop r.1 := by
  induction p with
  | nil =>
    intro q b r _ h
    rw [tm_mt_nil] at h
    rw [← Option.some.inj h]
    exact ⟨fun _ _ z => z, rfl⟩
  | cons c p ih =>
    intro q b r hp h
    have h0 := h
    obtain ⟨hq, hc⟩ := tm_mt_inv h
    show _ ∧ w.drop q = (tm_i1 g w r.2 c ++ tm_in g w r.2 p) ++ w.drop r.1
    rcases hc with ⟨v, hpt, hvc, ⟨hb, hm⟩ | ⟨q0, hb, hs, hm⟩⟩ | ⟨hs, hat, hm⟩
    · obtain ⟨i1, i2⟩ := ih _ _ _ (Or.inl hpt) hm
      refine ⟨fun v2 q2 z => i1 v2 q2 ?_, ?_⟩
      · unfold tm_bu
        rw [if_neg ?_]
        · exact z
        · intro e
          rw [e, hb] at z
          cases z
      · have hr : r.2 v = some q := i1 v q (by unfold tm_bu; rw [if_pos rfl])
        rw [tm_i1_b hvc hr, List.append_assoc, ← i2]
        exact se_sub_app g w q
    · obtain ⟨i1, i2⟩ := ih _ _ _ (Or.inl hpt) hm
      refine ⟨i1, ?_⟩
      rw [tm_i1_b hvc (i1 v q0 hb), hs, List.append_assoc, ← i2]
      exact se_sub_app g w q
    · obtain ⟨i1, i2⟩ := ih _ _ _ hp hm
      refine ⟨i1, ?_⟩
      have hi : tm_i1 g w r.2 c = [c] := by
        cases hv : tm_vn c with
        | none => exact tm_i1_n hv
        | some v =>
          rcases hs with hs | hs
          · subst hs
            have e := tm_mt_fix _ _ _ _ h0
            rcases hp with hp | hp
            · cases hp
            · refine tm_i1_u hv ?_
              rw [e, hp]
          · rw [hv] at hs
            cases hs
      rw [hi, List.append_assoc, ← i2, tm_drop_cons hq, hat]
      rfl
