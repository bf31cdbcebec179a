/-! 08: well-formed equations, the form of a rule: pure -/
def eq_Q (g : tm_G) (w : List Nat) (e : Nat) : Prop := e < w.length ∧ tm_at w e = 61 ∧ ∃ s, tm_P g [s] (w.take e) ∧ tm_P g [s] (w.drop (e + 1))
theorem eq_sym {n : Nat} {A : Nat → List Nat} {Z : Nat → Nat} (hn : n ≤ 8) : tm_sg n A Z 61 = none := tm_sg_o (by decide) (by decide) (by decide) (by omega)
theorem eq_no {g : tm_G} (h61 : g 61 = none) {S w : List Nat} (hP : tm_P g S w) {i : Nat} (hi : i < w.length) : tm_at w i ≠ 61 := by
  intro z
  obtain ⟨a, s, h⟩ := tm_P_sym hP (tm_at_mem hi)
  rw [z, h61] at h
  cases h
theorem eq_Q_only {g : tm_G} (h61 : g 61 = none) {w : List Nat} {e : Nat} (h : eq_Q g w e) {i : Nat} (hi : i < w.length) (hw : tm_at w i = 61) : i = e := by
  obtain ⟨h1, h2, s, h3, h4⟩ := h
  apply Nat.le_antisymm
  · apply Nat.le_of_not_lt
    intro hlt
    have := eq_no h61 h4 (i := i - (e + 1)) (by rw [List.length_drop]; omega)
    rw [tm_at_drop, show e + 1 + (i - (e + 1)) = i by omega] at this
    exact this hw
  · apply Nat.le_of_not_lt
    intro hlt
    have := eq_no h61 h3 (i := i) (by rw [List.length_take]; omega)
    rw [tm_at_take hlt] at this
    exact this hw
/-- the rule's own shape -/
def eq_rc (w : List Nat) : Nat := if tm_at w 1 = 83 then tm_at w 2 else if tm_at w 1 = 67 then tm_at w 3 else 0
def eq_FL (w : List Nat) (e : Nat) : Prop := tm_fn (tm_at w 0) ∧ tm_kd (tm_at w 1) ≠ none ∧ (∀ i, 2 ≤ i → i < e → tm_vn (tm_at w i) ≠ none) ∧ (∀ i j, 2 ≤ i → i < j → j < e → tm_at w i ≠ tm_at w j)
def eq_FV (w : List Nat) (e : Nat) : Prop := ∀ i, e < i → i < w.length → tm_vn (tm_at w i) ≠ none → ∃ j, j < e ∧ tm_at w j = tm_at w i
def eq_F1 (R : Nat → List Nat) (w : List Nat) (i : Nat) : Prop := tm_fn (tm_at w i) → (tm_at w i < tm_at w 0 ∧ tm_cp R (tm_at w i)) ∨ (tm_at w i = tm_at w 0 ∧ eq_rc w ≠ 0 ∧ tm_at w (i + 1) = eq_rc w)
def eq_FF (R : Nat → List Nat) (w : List Nat) (e : Nat) : Prop := ∀ i, e < i → i < w.length → eq_F1 R w i
def eq_F (R : Nat → List Nat) (w : List Nat) (e : Nat) : Prop := eq_FL w e ∧ eq_FV w e ∧ eq_FF R w e
/-- behind S there is one more symbol of the left side, behind C there are two -/
theorem eq_len {n : Nat} {A : Nat → List Nat} {Z : Nat → Nat} {w : List Nat} {e : Nat} (h : eq_Q (tm_sg n A Z) w e) (hk : tm_kd (tm_at w 1) ≠ none) (hf : tm_fn (tm_at w 0)) : 2 ≤ e ∧ (tm_at w 1 = 83 → 3 ≤ e) ∧ (tm_at w 1 = 67 → 4 ≤ e) := by
  obtain ⟨h1, h2, s, h3, h4⟩ := h
  have e0 : e ≠ 0 := by
    intro z
    subst z
    rw [h2] at hf
    omega
  have e1 : e ≠ 1 := by
    intro z
    subst z
    rw [h2] at hk
    exact hk (by decide)
  have l0 : (w.take e).length = e := by rw [List.length_take]; omega
  refine ⟨by omega, fun z => ?_, fun z => ?_⟩
  · apply Nat.lt_of_not_le
    intro hle
    obtain ⟨a, s', S', hg, _, hP⟩ := tm_P_suf h3 (i := 1) (by omega)
    rw [tm_at_take (by omega), z, tm_sg_83] at hg
    obtain ⟨rfl, rfl⟩ := Prod.mk.inj (Option.some.inj hg)
    rw [List.drop_eq_nil_of_le (by omega)] at hP
    exact absurd hP (fun y => nomatch (show [0] ++ S' = [] from y))
  · apply Nat.lt_of_not_le
    intro hle
    obtain ⟨a, s', S', hg, _, hP⟩ := tm_P_suf h3 (i := 1) (by omega)
    rw [tm_at_take (by omega), z, tm_sg_67] at hg
    obtain ⟨rfl, rfl⟩ := Prod.mk.inj (Option.some.inj hg)
    have hl := tm_P_len' hP
    have h5 := tm_en_le (tm_sg n A Z) ((w.take e).drop (1 + 1)) ([0, 1] ++ S').length
    rw [List.length_drop, l0] at hl h5
    by_cases z2 : e = 2
    · rw [List.drop_eq_nil_of_le (by omega)] at hP
      exact absurd hP (fun y => nomatch (show [0, 1] ++ S' = [] from y))
    · have z3 : e = 3 := by omega
      rw [tm_drop_cons (w := w.take e) (i := 1 + 1) (by omega), List.drop_eq_nil_of_le (by omega)] at hP
      obtain ⟨a, s2, S2, hg2, hS2, hP2⟩ := hP
      have hP2' : a ++ S2 = [] := hP2
      obtain ⟨_, hs⟩ := List.append_eq_nil_iff.mp hP2'
      rw [hs] at hS2
      exact absurd hS2 (fun y => nomatch (List.cons.inj (show 0 :: (1 :: S') = s2 :: [] from y)).2)
theorem eq_RW {n : Nat} {A : Nat → List Nat} {Z : Nat → Nat} {R R' : Nat → List Nat} {w : List Nat} {e k : Nat} (h : eq_Q (tm_sg n A Z) w e) (hF : eq_F R w e) (hk : tm_kd (tm_at w 1) = some k)
    (hl : R' (4 * (tm_at w 0 - 70) + 2 * k) = w.take e) (hr : R' (4 * (tm_at w 0 - 70) + 2 * k + 1) = w.drop (e + 1)) (hne : ∀ i, i < 32 → R i ≠ [] → R' i ≠ []) : tm_RW (tm_sg n A Z) R' (tm_at w 0 - 70) k := by
  obtain ⟨hFL, hFV, hFF⟩ := hF
  have hfn : tm_fn (tm_at w 0) := hFL.1
  obtain ⟨he, _, _⟩ := eq_len h hFL.2.1 hfn
  obtain ⟨h1, h2, s, h3, h4⟩ := h
  have l0 : (w.take e).length = e := by rw [List.length_take]; omega
  have hcons : w.take e = tm_at w 0 :: tm_at w 1 :: (w.take e).drop 2 := by
    have q0 := tm_drop_cons (w := w.take e) (i := 0) (by omega)
    have q1 := tm_drop_cons (w := w.take e) (i := 1) (by omega)
    rw [List.drop_zero, Nat.zero_add, q1, tm_at_take (by omega), tm_at_take (by omega)] at q0
    exact q0
  have hat : ∀ i, i < e - 2 → tm_at ((w.take e).drop 2) i = tm_at w (2 + i) := by
    intro i hi
    rw [tm_at_drop, tm_at_take (by omega)]
  have ld : ((w.take e).drop 2).length = e - 2 := by rw [List.length_drop, l0]
  refine ⟨tm_at w 1, (w.take e).drop 2, s, ?_, hk, ?_, ?_, ?_, ?_, ?_⟩
  · rw [hl, show 70 + (tm_at w 0 - 70) = tm_at w 0 by omega]
    exact hcons
  · intro c hc
    obtain ⟨i, hi, rfl⟩ := tm_mem_at hc
    rw [ld] at hi
    rw [hat i hi]
    exact Option.ne_none_iff_exists'.mp (hFL.2.2.1 (2 + i) (by omega) (by omega))
  · rw [List.nodup_iff_pairwise_ne, List.pairwise_iff_getElem]
    intro i j hi hj hij
    have := hFL.2.2.2 (2 + i) (2 + j) (by omega) (by omega) (by omega)
    rw [← hat i (by omega), ← hat j (by omega), tm_at_lt hi, tm_at_lt hj] at this
    exact this
  · rw [hl]; exact h3
  · rw [hr]; exact h4
  · rw [hr]
    intro c hc hf
    obtain ⟨i, hi, rfl⟩ := tm_mem_at hc
    rw [List.length_drop] at hi
    rw [tm_at_drop] at hf ⊢
    rcases hFF (e + 1 + i) (by omega) (by omega) hf with ⟨_, hp⟩ | ⟨hp, _⟩
    · exact Or.inr (iv_cp_ext hne hf hp)
    · left
      omega
