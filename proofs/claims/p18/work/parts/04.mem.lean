/-! 04: a table of texts as one array of cells and one of lengths; bits of sorts; reading from the end -/
def mm_M (W N : Nat) (T L : Nat → Int32) (m : Nat → List Nat) : Prop := ∀ s, s < N → L s = nI (m s).length ∧ (m s).length ≤ W ∧ ∀ i, i < (m s).length → tm_at (m s) i < 256 ∧ T (s * W + i) = nI (tm_at (m s) i)
def mm_set (m : Nat → List Nat) (s : Nat) (w : List Nat) : Nat → List Nat := fun j => if j = s then w else m j
theorem mm_set_s {m : Nat → List Nat} {s : Nat} {w : List Nat} : mm_set m s w s = w := if_pos rfl
theorem mm_set_n {m : Nat → List Nat} {s j : Nat} {w : List Nat} (h : j ≠ s) : mm_set m s w j = m j := if_neg h
theorem mm_set_set {m : Nat → List Nat} {s : Nat} {u w : List Nat} : mm_set (mm_set m s u) s w = mm_set m s w := by
  funext j
  unfold mm_set
  by_cases h : j = s
  · rw [if_pos h, if_pos h]
  · rw [if_neg h, if_neg h, if_neg h]
theorem mm_set_self {m : Nat → List Nat} {s : Nat} : mm_set m s (m s) = m := by
  funext j
  unfold mm_set
  by_cases h : j = s
  · rw [if_pos h, h]
  · rw [if_neg h]
theorem mm_uu {f : Nat → Int32} {k : Nat} {x y : Int32} : upd (upd f k x) k y = upd f k y := by
  funext j
  unfold upd
  by_cases h : j = k
  · rw [if_pos h, if_pos h]
  · rw [if_neg h, if_neg h, if_neg h]
theorem mm_ue {f : Nat → Int32} {k : Nat} {x : Int32} (h : f k = x) : upd f k x = f := by
  funext j
  unfold upd
  by_cases e : j = k
  · rw [if_pos e, e, h]
  · rw [if_neg e]
theorem mm_us {f : Nat → Int32} {k : Nat} {x : Int32} : upd f k x k = x := if_pos rfl
theorem mm_un {f : Nat → Int32} {k j : Nat} {x : Int32} (h : j ≠ k) : upd f k x j = f j := if_neg h
theorem mm_len {W N : Nat} {T L : Nat → Int32} {m : Nat → List Nat} (h : mm_M W N T L m) {s : Nat} (hs : s < N) : L s = nI (m s).length := (h s hs).1
theorem mm_le {W N : Nat} {T L : Nat → Int32} {m : Nat → List Nat} (h : mm_M W N T L m) {s : Nat} (hs : s < N) : (m s).length ≤ W := (h s hs).2.1
theorem mm_t {W N : Nat} {T L : Nat → Int32} {m : Nat → List Nat} (h : mm_M W N T L m) {s i : Nat} (hs : s < N) (hi : i < (m s).length) : T (s * W + i) = nI (tm_at (m s) i) := ((h s hs).2.2 i hi).2
theorem mm_b {W N : Nat} {T L : Nat → Int32} {m : Nat → List Nat} (h : mm_M W N T L m) {s : Nat} (hs : s < N) (i : Nat) : tm_at (m s) i < 256 := by
  by_cases hi : i < (m s).length
  · exact ((h s hs).2.2 i hi).1
  · rw [tm_at_ge (by omega)]
    omega
theorem mm_mem {W N : Nat} {T L : Nat → Int32} {m : Nat → List Nat} (h : mm_M W N T L m) {s : Nat} (hs : s < N) {c : Nat} (hc : c ∈ m s) : c < 256 := by
  obtain ⟨i, _, rfl⟩ := tm_mem_at hc
  exact mm_b h hs i
theorem mm_cell {W s i s' i' : Nat} (hi : i < W) (hi' : i' < W) (h : s * W + i = s' * W + i') : s = s' ∧ i = i' := by
  have e1 : (s * W + i) / W = s := by
    rw [Nat.mul_comm, Nat.mul_add_div (by omega), Nat.div_eq_of_lt hi, Nat.add_zero]
  have e2 : (s' * W + i') / W = s' := by
    rw [Nat.mul_comm, Nat.mul_add_div (by omega), Nat.div_eq_of_lt hi', Nat.add_zero]
  rw [h] at e1
  have : s = s' := by rw [← e1, e2]
  subst this
  exact ⟨rfl, by omega⟩
/-- one more symbol behind a text -/
theorem mm_put {W N : Nat} {T L : Nat → Int32} {m : Nat → List Nat} (h : mm_M W N T L m) {s c n : Nat} (hs : s < N) (hn : (m s).length = n) (hl : n < W) (hc : c < 256) : mm_M W N (upd T (s * W + n) (nI c)) (upd L s (nI (n + 1))) (mm_set m s (m s ++ [c])) := by
  intro j hj
  by_cases e : j = s
  · subst e
    rw [mm_set_s, mm_us, List.length_append, hn]
    refine ⟨rfl, by rw [List.length_singleton]; omega, ?_⟩
    intro i hi
    rw [List.length_singleton] at hi
    by_cases e : i = n
    · subst e
      rw [mm_us, tm_at_app_r (by omega), hn, Nat.sub_self]
      exact ⟨hc, rfl⟩
    · rw [mm_un (by omega), tm_at_app_l (by omega)]
      exact (h j hj).2.2 i (by omega)
  · rw [mm_set_n e, mm_un e]
    refine ⟨(h j hj).1, (h j hj).2.1, ?_⟩
    intro i hi
    have hw := (h j hj).2.1
    rw [mm_un ?_]
    · exact (h j hj).2.2 i hi
    · intro z
      exact e (mm_cell (by omega) hl z).1
/-- a text cut to its first k symbols -/
theorem mm_cut {W N : Nat} {T L : Nat → Int32} {m : Nat → List Nat} (h : mm_M W N T L m) {s k : Nat} (hs : s < N) (hk : k ≤ (m s).length) : mm_M W N T (upd L s (nI k)) (mm_set m s ((m s).take k)) := by
  intro j hj
  by_cases e : j = s
  · subst e
    rw [mm_set_s, mm_us, List.length_take, Nat.min_eq_left hk]
    refine ⟨rfl, by have := (h j hj).2.1; omega, ?_⟩
    intro i hi
    rw [tm_at_take hi]
    exact (h j hj).2.2 i (by omega)
  · rw [mm_set_n e, mm_un e]
    exact h j hj
theorem mm_nil {W N : Nat} {T L : Nat → Int32} {m : Nat → List Nat} (h : mm_M W N T L m) {s : Nat} (hs : s < N) : mm_M W N T (upd L s 0) (mm_set m s []) := by
  have := mm_cut h hs (Nat.zero_le _)
  rw [List.take_zero] at this
  exact this
theorem mm_tt (K : Nat) (x y : List Nat) : (x.take K ++ y).take K = (x ++ y).take K := by
  by_cases h : x.length ≤ K
  · rw [List.take_of_length_le h]
  · rw [List.take_append_of_le_length (by rw [List.length_take]; omega), List.take_append_of_le_length (by omega), List.take_take, Nat.min_self]
theorem mm_tl {K : Nat} {x : List Nat} (h : x.length ≤ K) : x.take K = x := List.take_of_length_le h
theorem mm_snoc {w : List Nat} {n : Nat} (h : n < w.length) : w.take n ++ [tm_at w n] = w.take (n + 1) := by
  rw [tm_at_lt h]
  exact List.take_append_getElem h
/-! sorts as bits -/
def so_num (S : List Nat) : Nat := S.foldr (fun b n => b + 2 * n) 0
theorem so_num_nil : so_num [] = 0 := rfl
theorem so_num_cons (b : Nat) (S : List Nat) : so_num (b :: S) = b + 2 * so_num S := rfl
def so_B (S : List Nat) : Prop := ∀ x, x ∈ S → x < 2
theorem so_B_cons {b : Nat} {S : List Nat} (h : so_B (b :: S)) : b < 2 ∧ so_B S := ⟨h b List.mem_cons_self, fun x hx => h x (List.mem_cons_of_mem _ hx)⟩
theorem so_B_mk {b : Nat} {S : List Nat} (h : b < 2) (h2 : so_B S) : so_B (b :: S) := by
  intro x hx
  rcases List.mem_cons.mp hx with e | e
  · omega
  · exact h2 x e
theorem so_B_drop {S : List Nat} (h : so_B S) (k : Nat) : so_B (S.drop k) := fun x hx => h x (List.mem_of_mem_drop hx)
theorem so_lt (S : List Nat) : so_B S → so_num S < 2 ^ S.length := by
  induction S with
  | nil => intro _; decide
  | cons b S ih =>
    intro h
    have h2 := so_B_cons h
    have := ih h2.2
    rw [so_num_cons, List.length_cons, Nat.pow_succ]
    omega
theorem so_td (S : List Nat) : ∀ k, k ≤ S.length → so_B S → so_num S % 2 ^ k = so_num (S.take k) ∧ so_num S / 2 ^ k = so_num (S.drop k) := by
  induction S with
  | nil =>
    intro k hk _
    have : k = 0 := by
      rw [List.length_nil] at hk
      omega
    subst this
    exact ⟨rfl, rfl⟩
  | cons b S ih =>
    intro k hk h
    cases k with
    | zero =>
      rw [List.take_zero, List.drop_zero, Nat.pow_zero, Nat.mod_one, Nat.div_one]
      exact ⟨rfl, rfl⟩
    | succ k =>
      have h2 := so_B_cons h
      rw [List.length_cons] at hk
      obtain ⟨h3, h4⟩ := ih k (by omega) h2.2
      rw [List.take_succ_cons, List.drop_succ_cons, so_num_cons, so_num_cons, ← h3, ← h4, Nat.pow_succ, Nat.mul_comm (2 ^ k) 2]
      constructor
      · rw [Nat.mod_mul, show (b + 2 * so_num S) % 2 = b by omega, show (b + 2 * so_num S) / 2 = so_num S by omega]
      · rw [← Nat.div_div_eq_div_mul, show (b + 2 * so_num S) / 2 = so_num S by omega]
theorem so_inj (S : List Nat) : ∀ U, S.length = U.length → so_B S → so_B U → so_num S = so_num U → S = U := by
  induction S with
  | nil =>
    intro U h _ _ _
    exact (List.eq_nil_of_length_eq_zero h.symm).symm
  | cons b S ih =>
    intro U h h1 h2 h3
    cases U with
    | nil => cases h
    | cons c U =>
      have b1 := so_B_cons h1
      have b2 := so_B_cons h2
      rw [so_num_cons, so_num_cons] at h3
      rw [List.length_cons, List.length_cons] at h
      rw [ih U (by omega) b1.2 b2.2 (by omega), show b = c by omega]
/-! reading from the end -/
def tm_bk (g : tm_G) : List Nat → Option (List Nat)
  | [] => some []
  | c :: w => match tm_bk g w with
    | none => none
    | some S => match g c with
      | none => none
      | some p => if S.take p.1.length = p.1 then some (p.2 :: S.drop p.1.length) else none
theorem tm_bk_P {g : tm_G} (w : List Nat) : ∀ S, tm_bk g w = some S ↔ tm_P g S w := by
  induction w with
  | nil =>
    intro S
    constructor
    · intro h
      exact (Option.some.inj h).symm
    · intro h
      have h' : S = [] := h
      rw [h']
      rfl
  | cons c w ih =>
    intro S
    rw [tm_bk]
    constructor
    · intro h
      cases hb : tm_bk g w with
      | none => rw [hb] at h; cases h
      | some S1 =>
        rw [hb] at h
        dsimp only at h
        cases hg : g c with
        | none => rw [hg] at h; cases h
        | some p =>
          rw [hg] at h
          dsimp only at h
          by_cases e : S1.take p.1.length = p.1
          · rw [if_pos e] at h
            refine ⟨p.1, p.2, S1.drop p.1.length, hg, (Option.some.inj h).symm, ?_⟩
            have h5 := (ih S1).mp hb
            rw [← List.take_append_drop p.1.length S1, e] at h5
            exact h5
          · rw [if_neg e] at h
            cases h
    · rintro ⟨a, s, S', hg, rfl, hP⟩
      rw [(ih _).mpr hP, hg]
      dsimp only
      rw [List.take_left' rfl, List.drop_left' rfl, if_pos rfl]
/-- the sort of the one term that the text is -/
def tm_ts (g : tm_G) (w : List Nat) : Option Nat := match tm_bk g w with
  | some [s] => some s
  | _ => none
theorem tm_ts_P {g : tm_G} {w : List Nat} {s : Nat} : tm_ts g w = some s ↔ tm_P g [s] w := by
  rw [← tm_bk_P]
  unfold tm_ts
  constructor
  · intro h
    split at h
    · rename_i s2 e
      rw [e, Option.some.inj h]
    · cases h
  · intro h
    rw [h]
theorem tm_ts_no {g : tm_G} {w : List Nat} (h : ∀ s, ¬ tm_P g [s] w) : tm_ts g w = none := by
  cases e : tm_ts g w with
  | none => rfl
  | some s => exact absurd (tm_ts_P.mp e) (h s)
