/-! 01: texts as lists of codes; terms by a stack of sorts; ends of subterms; matching, filled patterns, REPLACE, NORMALIZE: pure -/
abbrev tm_G : Type := Nat → Option (List Nat × Nat)
def tm_at (w : List Nat) (i : Nat) : Nat := w.getD i 0
theorem tm_at_lt {w : List Nat} {i : Nat} (h : i < w.length) : tm_at w i = w[i] := by
  unfold tm_at
  rw [List.getD_eq_getElem?_getD, List.getElem?_eq_getElem h]
  rfl
theorem tm_at_ge {w : List Nat} {i : Nat} (h : w.length ≤ i) : tm_at w i = 0 := by
  unfold tm_at
  rw [List.getD_eq_getElem?_getD, List.getElem?_eq_none h]
  rfl
theorem tm_drop_cons {w : List Nat} {i : Nat} (h : i < w.length) : w.drop i = tm_at w i :: w.drop (i + 1) := by
  rw [tm_at_lt h]
  exact List.drop_eq_getElem_cons h
theorem tm_at_drop (w : List Nat) (i j : Nat) : tm_at (w.drop i) j = tm_at w (i + j) := by
  unfold tm_at
  rw [List.getD_eq_getElem?_getD, List.getD_eq_getElem?_getD, List.getElem?_drop]
theorem tm_at_take {w : List Nat} {n i : Nat} (h : i < n) : tm_at (w.take n) i = tm_at w i := by
  unfold tm_at
  rw [List.getD_eq_getElem?_getD, List.getD_eq_getElem?_getD, List.getElem?_take_of_lt h]
theorem tm_at_app_l {u w : List Nat} {i : Nat} (h : i < u.length) : tm_at (u ++ w) i = tm_at u i := by
  unfold tm_at
  rw [List.getD_eq_getElem?_getD, List.getD_eq_getElem?_getD, List.getElem?_append_left h]
theorem tm_at_app_r {u w : List Nat} {i : Nat} (h : u.length ≤ i) : tm_at (u ++ w) i = tm_at w (i - u.length) := by
  unfold tm_at
  rw [List.getD_eq_getElem?_getD, List.getD_eq_getElem?_getD, List.getElem?_append_right h]
theorem tm_ext {u w : List Nat} (hl : u.length = w.length) (h : ∀ i, i < u.length → tm_at u i = tm_at w i) : u = w := by
  apply List.ext_getElem hl
  intro i h1 h2
  have := h i h1
  rwa [tm_at_lt h1, tm_at_lt h2] at this
theorem tm_at_mem {w : List Nat} {i : Nat} (h : i < w.length) : tm_at w i ∈ w := by
  rw [tm_at_lt h]
  exact List.getElem_mem h
theorem tm_mem_at {w : List Nat} {c : Nat} (h : c ∈ w) : ∃ i, i < w.length ∧ tm_at w i = c := by
  obtain ⟨i, hi, e⟩ := List.getElem_of_mem h
  exact ⟨i, hi, by rw [tm_at_lt hi]; exact e⟩
/-! arity, well-formed sequences, ends -/
def tm_ar (g : tm_G) (c : Nat) : Nat := match g c with
  | some p => p.1.length
  | none => 0
theorem tm_ar_some {g : tm_G} {c : Nat} {a : List Nat} {s : Nat} (h : g c = some (a, s)) : tm_ar g c = a.length := by
  unfold tm_ar
  rw [h]
def tm_P (g : tm_G) : List Nat → List Nat → Prop
  | S, [] => S = []
  | S, c :: w => ∃ a s S', g c = some (a, s) ∧ S = s :: S' ∧ tm_P g (a ++ S') w
def tm_en (g : tm_G) : Nat → List Nat → Nat
  | _, [] => 0
  | k, c :: w => if k = 0 then 0 else 1 + tm_en g (tm_ar g c + (k - 1)) w
theorem tm_en_nil (g : tm_G) (k : Nat) : tm_en g k [] = 0 := by simp [tm_en]
theorem tm_en_0 (g : tm_G) (w : List Nat) : tm_en g 0 w = 0 := by
  cases w <;> simp [tm_en]
theorem tm_en_s (g : tm_G) (k c : Nat) (w : List Nat) : tm_en g (k + 1) (c :: w) = 1 + tm_en g (tm_ar g c + k) w := by
  simp [tm_en]
theorem tm_en_le (g : tm_G) (w : List Nat) : ∀ k, tm_en g k w ≤ w.length := by
  induction w with
  | nil => intro k; rw [tm_en_nil]; exact Nat.zero_le _
  | cons c w ih =>
    intro k
    cases k with
    | zero => rw [tm_en_0]; exact Nat.zero_le _
    | succ k =>
      rw [tm_en_s, List.length_cons]
      have := ih (tm_ar g c + k)
      omega
theorem tm_en_add (g : tm_G) (w : List Nat) : ∀ a b, tm_en g (a + b) w = tm_en g a w + tm_en g b (w.drop (tm_en g a w)) := by
  induction w with
  | nil => intro a b; rw [tm_en_nil, tm_en_nil, List.drop_nil, tm_en_nil]
  | cons c w ih =>
    intro a b
    cases a with
    | zero => rw [tm_en_0, Nat.zero_add, Nat.zero_add, List.drop_zero]
    | succ a =>
      rw [show a + 1 + b = (a + b) + 1 by omega, tm_en_s, tm_en_s, ← Nat.add_assoc, ih (tm_ar g c + a) b,
        Nat.add_comm 1 (tm_en g (tm_ar g c + a) w), List.drop_succ_cons]
      omega
theorem tm_P_en {g : tm_G} (w : List Nat) : ∀ S1 S2, tm_P g (S1 ++ S2) w → tm_P g S1 (w.take (tm_en g S1.length w)) ∧ tm_P g S2 (w.drop (tm_en g S1.length w)) := by
  induction w with
  | nil =>
    intro S1 S2 h
    have h' : S1 ++ S2 = [] := h
    obtain ⟨rfl, rfl⟩ := List.append_eq_nil_iff.mp h'
    exact ⟨rfl, rfl⟩
  | cons c w ih =>
    intro S1 S2 h
    cases S1 with
    | nil =>
      rw [List.length_nil, tm_en_0]
      exact ⟨rfl, h⟩
    | cons s1 S1 =>
      obtain ⟨a, s, S', hg, hS, hP⟩ := h
      rw [List.cons_append] at hS
      obtain ⟨rfl, rfl⟩ := List.cons.inj hS
      rw [← List.append_assoc] at hP
      obtain ⟨h1, h2⟩ := ih (a ++ S1) S2 hP
      rw [List.length_append] at h1 h2
      rw [List.length_cons, tm_en_s, tm_ar_some hg, Nat.add_comm 1, List.take_succ_cons, List.drop_succ_cons]
      exact ⟨⟨a, s1, S1, hg, rfl, h1⟩, h2⟩
theorem tm_P_app {g : tm_G} {S2 v : List Nat} (hv : tm_P g S2 v) (u : List Nat) : ∀ S1, tm_P g S1 u → tm_P g (S1 ++ S2) (u ++ v) := by
  induction u with
  | nil =>
    intro S1 h
    have h' : S1 = [] := h
    subst h'
    exact hv
  | cons c u ih =>
    intro S1 h
    obtain ⟨a, s, S', hg, rfl, hP⟩ := h
    refine ⟨a, s, S' ++ S2, hg, rfl, ?_⟩
    rw [← List.append_assoc]
    exact ih _ hP
theorem tm_P_len {g : tm_G} (v : List Nat) (u : List Nat) : ∀ S1, tm_P g S1 u → tm_en g S1.length (u ++ v) = u.length := by
  induction u with
  | nil =>
    intro S1 h
    have h' : S1 = [] := h
    subst h'
    exact tm_en_0 g _
  | cons c u ih =>
    intro S1 h
    obtain ⟨a, s, S', hg, rfl, hP⟩ := h
    have := ih _ hP
    rw [List.length_append] at this
    rw [List.length_cons, List.cons_append, tm_en_s, tm_ar_some hg, this, List.length_cons]
    omega
theorem tm_P_len' {g : tm_G} {u S1 : List Nat} (h : tm_P g S1 u) : tm_en g S1.length u = u.length := by
  have := tm_P_len [] u S1 h
  rwa [List.append_nil] at this
theorem tm_P_uniq {g : tm_G} (u : List Nat) : ∀ S T, tm_P g S u → tm_P g T u → S = T := by
  induction u with
  | nil =>
    intro S T h h2
    have h' : S = [] := h
    have h2' : T = [] := h2
    rw [h', h2']
  | cons c u ih =>
    intro S T h h2
    obtain ⟨a, s, S', hg, rfl, hP⟩ := h
    obtain ⟨a2, s2, S2', hg2, rfl, hP2⟩ := h2
    rw [hg] at hg2
    obtain ⟨rfl, rfl⟩ := Prod.mk.inj (Option.some.inj hg2)
    have := ih _ _ hP hP2
    rw [List.append_cancel_left this]
theorem tm_P_drop {g : tm_G} (w : List Nat) : ∀ S, tm_P g S w → ∀ i, ∃ S', tm_P g S' (w.drop i) := by
  induction w with
  | nil => intro S h i; rw [List.drop_nil]; exact ⟨S, h⟩
  | cons c w ih =>
    intro S h i
    cases i with
    | zero => exact ⟨S, h⟩
    | succ i =>
      obtain ⟨a, s, S', hg, rfl, hP⟩ := h
      exact ih _ hP i
theorem tm_P_cons {g : tm_G} {S w : List Nat} {c : Nat} (h : tm_P g S (c :: w)) : ∃ a s S', g c = some (a, s) ∧ S = s :: S' ∧ tm_P g (a ++ S') w := h
theorem tm_P_suf {g : tm_G} {w S : List Nat} (h : tm_P g S w) {i : Nat} (hi : i < w.length) : ∃ a s S', g (tm_at w i) = some (a, s) ∧ tm_P g (s :: S') (w.drop i) ∧ tm_P g (a ++ S') (w.drop (i + 1)) := by
  obtain ⟨S1, h1⟩ := tm_P_drop w S h i
  have h2 := h1
  rw [tm_drop_cons hi] at h2
  obtain ⟨a, s, S', hg, rfl, hP⟩ := h2
  exact ⟨a, s, S', hg, h1, hP⟩
theorem tm_P_sym {g : tm_G} {w S : List Nat} (h : tm_P g S w) {c : Nat} (hc : c ∈ w) : ∃ a s, g c = some (a, s) := by
  obtain ⟨i, hi, rfl⟩ := tm_mem_at hc
  obtain ⟨a, s, S', hg, _⟩ := tm_P_suf h hi
  exact ⟨a, s, hg⟩
theorem tm_P_mono {g g' : tm_G} (hm : ∀ c p, g c = some p → g' c = some p) (w : List Nat) : ∀ S, tm_P g S w → tm_P g' S w := by
  induction w with
  | nil => exact fun S h => h
  | cons c w ih =>
    intro S h
    obtain ⟨a, s, S', hg, rfl, hP⟩ := h
    exact ⟨a, s, S', hm _ _ hg, rfl, ih _ hP⟩
theorem tm_P_ne {g : tm_G} {s : Nat} {S w : List Nat} (h : tm_P g (s :: S) w) : 0 < w.length := by
  cases w with
  | nil => exact absurd h (fun z => nomatch (show s :: S = [] from z))
  | cons c w => exact Nat.succ_pos _
def tm_e (g : tm_G) (w : List Nat) (q : Nat) : Nat := q + tm_en g 1 (w.drop q)
def tm_sub (g : tm_G) (w : List Nat) (q : Nat) : List Nat := (w.drop q).take (tm_en g 1 (w.drop q))
theorem tm_e_rec (g : tm_G) {w : List Nat} {q : Nat} (h : q < w.length) : tm_e g w q = (q + 1) + tm_en g (tm_ar g (tm_at w q)) (w.drop (q + 1)) := by
  unfold tm_e
  rw [tm_drop_cons h, show (1 : Nat) = 0 + 1 from rfl, tm_en_s, Nat.add_zero]
  omega
theorem tm_e_gt (g : tm_G) {w : List Nat} {q : Nat} (h : q < w.length) : q < tm_e g w q := by
  rw [tm_e_rec g h]
  omega
theorem tm_e_le (g : tm_G) {w : List Nat} {q : Nat} (h : q ≤ w.length) : tm_e g w q ≤ w.length := by
  unfold tm_e
  have := tm_en_le g (w.drop q) 1
  rw [List.length_drop] at this
  omega
theorem tm_e_ge (g : tm_G) {w : List Nat} {q : Nat} (h : w.length ≤ q) : tm_e g w q = q := by
  unfold tm_e
  rw [List.drop_eq_nil_of_le h, tm_en_nil, Nat.add_zero]
theorem tm_e_iter (g : tm_G) (w : List Nat) (q j : Nat) : q + tm_en g (j + 1) (w.drop q) = tm_e g w (q + tm_en g j (w.drop q)) := by
  unfold tm_e
  rw [tm_en_add g (w.drop q) j 1, List.drop_drop]
  omega
theorem tm_sub_len (g : tm_G) {w : List Nat} {q : Nat} (h : q ≤ w.length) : (tm_sub g w q).length = tm_e g w q - q := by
  unfold tm_sub tm_e
  have := tm_en_le g (w.drop q) 1
  rw [List.length_take]
  omega
theorem tm_sub_at (g : tm_G) {w : List Nat} {q i : Nat} (h : q + i < tm_e g w q) : tm_at (tm_sub g w q) i = tm_at w (q + i) := by
  unfold tm_e at h
  unfold tm_sub
  rw [tm_at_take (by omega), tm_at_drop]
theorem tm_sub_mem {g : tm_G} {w : List Nat} {q c : Nat} (h : c ∈ tm_sub g w q) : c ∈ w := List.mem_of_mem_drop (List.mem_of_mem_take h)
theorem tm_sub_P {g : tm_G} {w : List Nat} {q s : Nat} {S : List Nat} (h : tm_P g (s :: S) (w.drop q)) : tm_P g [s] (tm_sub g w q) ∧ tm_P g S (w.drop (tm_e g w q)) := by
  obtain ⟨h1, h2⟩ := tm_P_en (w.drop q) [s] S h
  rw [List.drop_drop] at h2
  exact ⟨h1, h2⟩
