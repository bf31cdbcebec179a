/-! 09: bytes fed; what the arrays of bindings say; the signature's arrays: pure -/
def fd_w (w0 w1 w2 w3 : Int32) (j : Nat) : Int32 := if j < 4 then w0 else if j < 8 then w1 else if j < 12 then w2 else w3
def fd_b (w0 w1 w2 w3 : Int32) (j : Nat) : Nat := (fd_w w0 w1 w2 w3 j >>> (nI (8 * (j % 4)) &&& 31)).toBitVec.toNat % 256
theorem fd_b_e (w0 w1 w2 w3 : Int32) (j : Nat) : (fd_w w0 w1 w2 w3 j >>> (nI (8 * (j % 4)) &&& 31)) &&& 255 = nI (fd_b w0 w1 w2 w3 j) := pk_and _ 8 (by decide)
theorem fd_b_lt (w0 w1 w2 w3 : Int32) (j : Nat) : fd_b w0 w1 w2 w3 j < 256 := Nat.mod_lt _ (by decide)
def fd_l (b : Nat → Nat) : Nat → Nat → List Nat
  | 0, _ => []
  | k + 1, j => if b j = 0 then [] else b j :: fd_l b k (j + 1)
theorem fd_l_0 {b : Nat → Nat} {k j : Nat} (h : b j = 0) : fd_l b k j = [] := by
  cases k with
  | zero => rfl
  | succ k => exact if_pos h
theorem fd_l_s {b : Nat → Nat} {k j : Nat} (h : b j ≠ 0) : fd_l b (k + 1) j = b j :: fd_l b k (j + 1) := if_neg h
theorem fd_l_len {b : Nat → Nat} (k : Nat) : ∀ j, (fd_l b k j).length ≤ k := by
  induction k with
  | zero => exact fun _ => Nat.zero_le _
  | succ k ih =>
    intro j
    by_cases h : b j = 0
    · rw [fd_l_0 h]
      exact Nat.zero_le _
    · rw [fd_l_s h, List.length_cons]
      have := ih (j + 1)
      omega
theorem fd_l_at {b : Nat → Nat} (k : Nat) : ∀ j i, i < (fd_l b k j).length → tm_at (fd_l b k j) i = b (j + i) := by
  induction k with
  | zero => exact fun _ _ h => absurd h (Nat.not_lt_zero _)
  | succ k ih =>
    intro j i hi
    by_cases h : b j = 0
    · rw [fd_l_0 h] at hi
      exact absurd hi (Nat.not_lt_zero _)
    · rw [fd_l_s h] at hi ⊢
      cases i with
      | zero => rfl
      | succ i =>
        rw [List.length_cons] at hi
        have := ih (j + 1) i (by omega)
        rw [show j + (i + 1) = j + 1 + i by omega, ← this]
        rfl
/-! bindings -/
def rb_X (B : Nat → Int32) (b : Nat → Option Nat) : Prop := ∀ v, v < 16 → (b v = none → B v = -1) ∧ ∀ q0, b v = some q0 → B v = nI q0
theorem rb_X_up {B : Nat → Int32} {b : Nat → Option Nat} {v q : Nat} (h : rb_X B b) : rb_X (upd B v (nI q)) (tm_bu b v q) := by
  intro j hj
  unfold tm_bu
  by_cases e : j = v
  · subst e
    rw [mm_us, if_pos rfl]
    exact ⟨fun z => (nomatch z), fun q0 z => congrArg nI (Option.some.inj z)⟩
  · rw [mm_un e, if_neg e]
    exact h j hj
def rb_Y (g : tm_G) (w : List Nat) (bo bs be : Nat → Int32) (b : Nat → Option Nat) : Prop := ∀ v, v < 16 → (b v = none → bo v = 0) ∧ ∀ q0, b v = some q0 → bo v = 1 ∧ bs v = nI q0 ∧ be v = nI (tm_e g w q0)
theorem rb_Y_up {g : tm_G} {w : List Nat} {bo bs be : Nat → Int32} {b : Nat → Option Nat} {v q : Nat} (h : rb_Y g w bo bs be b) : rb_Y g w (upd bo v 1) (upd bs v (nI q)) (upd be v (nI (tm_e g w q))) (tm_bu b v q) := by
  intro j hj
  unfold tm_bu
  by_cases e : j = v
  · subst e
    rw [mm_us, mm_us, mm_us, if_pos rfl]
    exact ⟨fun z => (nomatch z), fun q0 z => by rw [Option.some.inj z]; exact ⟨rfl, rfl, rfl⟩⟩
  · rw [mm_un e, mm_un e, mm_un e, if_neg e]
    exact h j hj
/-! the signature in arrays -/
def sg_X (g : tm_G) (ay gs so : Nat → Int32) : Prop := ∀ c, c < 256 → (∀ a s, g c = some (a, s) → ay c = nI a.length ∧ gs c = nI (so_num a) ∧ so c = nI s) ∧ (g c = none → ay c = -1)
def sg_Y (n : Nat) (A : Nat → List Nat) (Z : Nat → Nat) (fa fr fe : Nat → Int32) : Prop := ∀ f, f < n → fa f = nI (A f).length ∧ fr f = nI (so_num (A f)) ∧ fe f = nI (Z f)
theorem sg_X_ar {g : tm_G} {ay gs so : Nat → Int32} (h : sg_X g ay gs so) {c : Nat} (hc : c < 256) : ay c = nI (tm_ar g c) ∨ (ay c = -1 ∧ tm_ar g c = 0 ∧ g c = none) := by
  cases e : g c with
  | none =>
    refine Or.inr ⟨(h c hc).2 e, ?_, rfl⟩
    unfold tm_ar
    rw [e]
  | some p =>
    left
    obtain ⟨a, s⟩ := p
    rw [tm_ar_some e]
    exact ((h c hc).1 a s e).1
theorem so_one (a : Nat) : so_num [a] = a := by
  rw [so_num_cons, so_num_nil]
  omega
def so_bits : Nat → Nat → List Nat
  | 0, _ => []
  | k + 1, x => x % 2 :: so_bits k (x / 2)
theorem so_bits_len (k : Nat) : ∀ x, (so_bits k x).length = k := by
  induction k with
  | zero => exact fun _ => rfl
  | succ k ih =>
    intro x
    show (x % 2 :: so_bits k (x / 2)).length = k + 1
    rw [List.length_cons, ih]
theorem so_bits_B (k : Nat) : ∀ x, so_B (so_bits k x) := by
  induction k with
  | zero => exact fun _ _ h => nomatch h
  | succ k ih => exact fun x => so_B_mk (Nat.mod_lt _ (by decide)) (ih _)
theorem so_bits_num (k : Nat) : ∀ x, so_num (so_bits k x) = x % 2 ^ k := by
  induction k with
  | zero =>
    intro x
    rw [Nat.pow_zero, Nat.mod_one]
    rfl
  | succ k ih =>
    intro x
    show so_num (x % 2 :: so_bits k (x / 2)) = _
    rw [so_num_cons, ih, Nat.pow_succ, Nat.mul_comm (2 ^ k) 2, Nat.mod_mul]
theorem so_bit_at {S : List Nat} (hB : so_B S) {j : Nat} (hj : j < S.length) : so_num S / 2 ^ j % 2 = tm_at S j := by
  rw [(so_td S j (by omega) hB).2, tm_drop_cons hj, so_num_cons]
  have := hB _ (tm_at_mem hj)
  omega
