section
/-! 00: rows of kit/laws (BITS), pasted -/
theorem nx_and (a b : Nat) : nI a &&& nI b = nI (a &&& b) := by
  apply Int32.toBitVec_inj.1
  show BitVec.ofNat 32 a &&& BitVec.ofNat 32 b = BitVec.ofNat 32 (a &&& b)
  apply BitVec.eq_of_getLsbD_eq
  intro i hi
  simp [hi]
theorem wb_tb (n : Nat) : (lN n).toBitVec = BitVec.ofNat 64 n := rfl
theorem wb_inj {a b : Int64} (h : a.toBitVec = b.toBitVec) : a = b := Int64.toBitVec_inj.mp h
theorem wb_tn {n : Nat} (h : n < 2 ^ 64) : (lN n).toBitVec.toNat = n := by rw [wb_tb, BitVec.toNat_ofNat, Nat.mod_eq_of_lt h]
theorem wb_c : ∀ k, k < 64 → ((nI k).toInt64 &&& 63) = lN k := by decide +kernel
theorem wb_sm : ∀ k, k < 64 → (BitVec.ofNat 64 k).smod 64 = BitVec.ofNat 64 k := by decide +kernel
theorem wb_pw {a b : Nat} (h : a ≤ b) : 2 ^ b = 2 ^ a * 2 ^ (b - a) := by rw [← Nat.pow_add]; congr 1; omega
theorem wb_lt2 {a b : Nat} (h : a < b) : 2 ^ a < 2 ^ b := Nat.pow_lt_pow_right (by decide) h
theorem wb_shl (n : Nat) {k : Nat} (hk : k < 64) : lN n <<< ((nI k).toInt64 &&& 63) = lN (n * 2 ^ k) := by
  rw [wb_c k hk]
  apply wb_inj
  rw [Int64.toBitVec_shiftLeft, wb_tb, wb_tb, wb_tb, wb_sm k hk]
  apply BitVec.eq_of_toNat_eq
  rw [BitVec.shiftLeft_eq', BitVec.toNat_shiftLeft, BitVec.toNat_ofNat, BitVec.toNat_ofNat, BitVec.toNat_ofNat, Nat.mod_eq_of_lt (show k < 2 ^ 64 by omega), Nat.shiftLeft_eq, Nat.mul_mod, Nat.mod_mod, ← Nat.mul_mod]
theorem wb_and {a b : Nat} (ha : a < 2 ^ 64) (hb : b < 2 ^ 64) : lN a &&& lN b = lN (a &&& b) := by
  apply wb_inj
  rw [Int64.toBitVec_and, wb_tb, wb_tb, wb_tb]
  apply BitVec.eq_of_toNat_eq
  rw [BitVec.toNat_and, BitVec.toNat_ofNat, BitVec.toNat_ofNat, BitVec.toNat_ofNat, Nat.mod_eq_of_lt ha, Nat.mod_eq_of_lt hb, Nat.mod_eq_of_lt (Nat.and_lt_two_pow _ hb)]
theorem wb_or {a b : Nat} (ha : a < 2 ^ 64) (hb : b < 2 ^ 64) : lN a ||| lN b = lN (a ||| b) := by
  apply wb_inj
  rw [Int64.toBitVec_or, wb_tb, wb_tb, wb_tb]
  apply BitVec.eq_of_toNat_eq
  rw [BitVec.toNat_or, BitVec.toNat_ofNat, BitVec.toNat_ofNat, BitVec.toNat_ofNat, Nat.mod_eq_of_lt ha, Nat.mod_eq_of_lt hb, Nat.mod_eq_of_lt (Nat.or_lt_two_pow ha hb)]
theorem wb_mask {n k : Nat} (hn : n < 2 ^ 64) (hk : k < 64) : lN n &&& lN (2 ^ k - 1) = lN (n % 2 ^ k) := by
  rw [wb_and hn (by have := wb_lt2 hk; omega), Nat.and_two_pow_sub_one_eq_mod]
theorem u_tn {n : Nat} (h : n < 2 ^ 64) : (UInt64.ofNat n).toNat = n := Nat.mod_eq_of_lt h
theorem g_or {k p a b : Nat} (hp : 2 ^ k = p) (ha : a < p) (h : b * p + a < 2 ^ 64) : lN (b * p) ||| lN a = lN (b * p + a) := by
  subst hp
  have h1 : b * 2 ^ k ||| a = b * 2 ^ k + a := by rw [← Nat.shiftLeft_eq, Nat.shiftLeft_add_eq_or_of_lt ha]
  have h3 : UInt64.ofNat (b * 2 ^ k) ||| UInt64.ofNat a = UInt64.ofNat (b * 2 ^ k + a) := UInt64.toNat_inj.mp (by rw [UInt64.toNat_or, u_tn (by omega), u_tn (by omega), u_tn h, h1])
  have h2 := congrArg UInt64.toInt64 h3
  exact h2
theorem pf_lI {a : Nat} (h : a < 2 ^ 63) : (lN a).toInt = (a : Int) := lg_ofNat_toInt h
theorem pf_shr {a d : Nat} {D : Int64} (hD : (D.toBitVec.smod 64).toNat = d) (h : a < 2 ^ 62) : lN a >>> D = lN (a / 2 ^ d) := by
  have hd : a / 2 ^ d ≤ a := Nat.div_le_self _ _
  apply Int64.toInt_inj.mp
  have e : (lN a >>> D).toInt = (lN a).toInt >>> d := by
    rw [← hD]
    exact BitVec.toInt_sshiftRight ..
  rw [e, Int.shiftRight_eq_div_pow, pf_lI (by omega), pf_lI (by omega)]
  rfl
end
section
/-! 01: texts as lists of codes; terms by a stack of sorts; ends of subterms; matching, filled patterns, REPLACE, NORMALIZE: pure -/
abbrev tm_G : Type := Nat → Option (List Nat × Nat)
def tm_at (w : List Nat) (i : Nat) : Nat := w.getD i 0
theorem tm_at_lt {w : List Nat} {i : Nat} (h : i < w.length) : tm_at w i = w[i] := by
  unfold tm_at
  rw [List.getD_eq_getElem?_getD, List.getElem?_eq_getElem h]
  rfl
theorem tm_at_ge {w : List Nat} {i : Nat} (h : w.length ≤ i) : tm_at w i = 0 := by
  unfold tm_at
  rw [List.getD_eq_getElem?_getD, List.getElem?_eq_none h]
  rfl
theorem tm_drop_cons {w : List Nat} {i : Nat} (h : i < w.length) : w.drop i = tm_at w i :: w.drop (i + 1) := by
  rw [tm_at_lt h]
  exact List.drop_eq_getElem_cons h
theorem tm_at_drop (w : List Nat) (i j : Nat) : tm_at (w.drop i) j = tm_at w (i + j) := by
  unfold tm_at
  rw [List.getD_eq_getElem?_getD, List.getD_eq_getElem?_getD, List.getElem?_drop]
theorem tm_at_take {w : List Nat} {n i : Nat} (h : i < n) : tm_at (w.take n) i = tm_at w i := by
  unfold tm_at
  rw [List.getD_eq_getElem?_getD, List.getD_eq_getElem?_getD, List.getElem?_take_of_lt h]
theorem tm_at_app_l {u w : List Nat} {i : Nat} (h : i < u.length) : tm_at (u ++ w) i = tm_at u i := by
  unfold tm_at
  rw [List.getD_eq_getElem?_getD, List.getD_eq_getElem?_getD, List.getElem?_append_left h]
theorem tm_at_app_r {u w : List Nat} {i : Nat} (h : u.length ≤ i) : tm_at (u ++ w) i = tm_at w (i - u.length) := by
  unfold tm_at
  rw [List.getD_eq_getElem?_getD, List.getD_eq_getElem?_getD, List.getElem?_append_right h]
theorem tm_ext {u w : List Nat} (hl : u.length = w.length) (h : ∀ i, i < u.length → tm_at u i = tm_at w i) : u = w := by
  apply List.ext_getElem hl
  intro i h1 h2
  have := h i h1
  rwa [tm_at_lt h1, tm_at_lt h2] at this
theorem tm_at_mem {w : List Nat} {i : Nat} (h : i < w.length) : tm_at w i ∈ w := by
  rw [tm_at_lt h]
  exact List.getElem_mem h
theorem tm_mem_at {w : List Nat} {c : Nat} (h : c ∈ w) : ∃ i, i < w.length ∧ tm_at w i = c := by
  obtain ⟨i, hi, e⟩ := List.getElem_of_mem h
  exact ⟨i, hi, by rw [tm_at_lt hi]; exact e⟩
/-! arity, well-formed sequences, ends -/
def tm_ar (g : tm_G) (c : Nat) : Nat := match g c with
  | some p => p.1.length
  | none => 0
theorem tm_ar_some {g : tm_G} {c : Nat} {a : List Nat} {s : Nat} (h : g c = some (a, s)) : tm_ar g c = a.length := by
  unfold tm_ar
  rw [h]
def tm_P (g : tm_G) : List Nat → List Nat → Prop
  | S, [] => S = []
  | S, c :: w => ∃ a s S', g c = some (a, s) ∧ S = s :: S' ∧ tm_P g (a ++ S') w
def tm_en (g : tm_G) : Nat → List Nat → Nat
  | _, [] => 0
  | k, c :: w => if k = 0 then 0 else 1 + tm_en g (tm_ar g c + (k - 1)) w
theorem tm_en_nil (g : tm_G) (k : Nat) : tm_en g k [] = 0 := by simp [tm_en]
theorem tm_en_0 (g : tm_G) (w : List Nat) : tm_en g 0 w = 0 := by
  cases w <;> simp [tm_en]
theorem tm_en_s (g : tm_G) (k c : Nat) (w : List Nat) : tm_en g (k + 1) (c :: w) = 1 + tm_en g (tm_ar g c + k) w := by
  simp [tm_en]
theorem tm_en_le (g : tm_G) (w : List Nat) : ∀ k, tm_en g k w ≤ w.length := by
  induction w with
  | nil => intro k; rw [tm_en_nil]; exact Nat.zero_le _
  | cons c w ih =>
    intro k
    cases k with
    | zero => rw [tm_en_0]; exact Nat.zero_le _
    | succ k =>
      rw [tm_en_s, List.length_cons]
      have := ih (tm_ar g c + k)
      omega
theorem tm_en_add (g : tm_G) (w : List Nat) : ∀ a b, tm_en g (a + b) w = tm_en g a w + tm_en g b (w.drop (tm_en g a w)) := by
  induction w with
  | nil => intro a b; rw [tm_en_nil, tm_en_nil, List.drop_nil, tm_en_nil]
  | cons c w ih =>
    intro a b
    cases a with
    | zero => rw [tm_en_0, Nat.zero_add, Nat.zero_add, List.drop_zero]
    | succ a =>
      rw [show a + 1 + b = (a + b) + 1 by omega, tm_en_s, tm_en_s, ← Nat.add_assoc, ih (tm_ar g c + a) b,
        Nat.add_comm 1 (tm_en g (tm_ar g c + a) w), List.drop_succ_cons]
      omega
theorem tm_P_en {g : tm_G} (w : List Nat) : ∀ S1 S2, tm_P g (S1 ++ S2) w → tm_P g S1 (w.take (tm_en g S1.length w)) ∧ tm_P g S2 (w.drop (tm_en g S1.length w)) := by
  induction w with
  | nil =>
    intro S1 S2 h
    have h' : S1 ++ S2 = [] := h
    obtain ⟨rfl, rfl⟩ := List.append_eq_nil_iff.mp h'
    exact ⟨rfl, rfl⟩
  | cons c w ih =>
    intro S1 S2 h
    cases S1 with
    | nil =>
      rw [List.length_nil, tm_en_0]
      exact ⟨rfl, h⟩
    | cons s1 S1 =>
      obtain ⟨a, s, S', hg, hS, hP⟩ := h
      rw [List.cons_append] at hS
      obtain ⟨rfl, rfl⟩ := List.cons.inj hS
      rw [← List.append_assoc] at hP
      obtain ⟨h1, h2⟩ := ih (a ++ S1) S2 hP
      rw [List.length_append] at h1 h2
      rw [List.length_cons, tm_en_s, tm_ar_some hg, Nat.add_comm 1, List.take_succ_cons, List.drop_succ_cons]
      exact ⟨⟨a, s1, S1, hg, rfl, h1⟩, h2⟩
theorem tm_P_app {g : tm_G} {S2 v : List Nat} (hv : tm_P g S2 v) (u : List Nat) : ∀ S1, tm_P g S1 u → tm_P g (S1 ++ S2) (u ++ v) := by
  induction u with
  | nil =>
    intro S1 h
    have h' : S1 = [] := h
    subst h'
    exact hv
  | cons c u ih =>
    intro S1 h
    obtain ⟨a, s, S', hg, rfl, hP⟩ := h
    refine ⟨a, s, S' ++ S2, hg, rfl, ?_⟩
    rw [← List.append_assoc]
    exact ih _ hP
theorem tm_P_len {g : tm_G} (v : List Nat) (u : List Nat) : ∀ S1, tm_P g S1 u → tm_en g S1.length (u ++ v) = u.length := by
  induction u with
  | nil =>
    intro S1 h
    have h' : S1 = [] := h
    subst h'
    exact tm_en_0 g _
  | cons c u ih =>
    intro S1 h
    obtain ⟨a, s, S', hg, rfl, hP⟩ := h
    have := ih _ hP
    rw [List.length_append] at this
    rw [List.length_cons, List.cons_append, tm_en_s, tm_ar_some hg, this, List.length_cons]
    omega
theorem tm_P_len' {g : tm_G} {u S1 : List Nat} (h : tm_P g S1 u) : tm_en g S1.length u = u.length := by
  have := tm_P_len [] u S1 h
  rwa [List.append_nil] at this
theorem tm_P_uniq {g : tm_G} (u : List Nat) : ∀ S T, tm_P g S u → tm_P g T u → S = T := by
  induction u with
  | nil =>
    intro S T h h2
    have h' : S = [] := h
    have h2' : T = [] := h2
    rw [h', h2']
  | cons c u ih =>
    intro S T h h2
    obtain ⟨a, s, S', hg, rfl, hP⟩ := h
    obtain ⟨a2, s2, S2', hg2, rfl, hP2⟩ := h2
    rw [hg] at hg2
    obtain ⟨rfl, rfl⟩ := Prod.mk.inj (Option.some.inj hg2)
    have := ih _ _ hP hP2
    rw [List.append_cancel_left this]
theorem tm_P_drop {g : tm_G} (w : List Nat) : ∀ S, tm_P g S w → ∀ i, ∃ S', tm_P g S' (w.drop i) := by
  induction w with
  | nil => intro S h i; rw [List.drop_nil]; exact ⟨S, h⟩
  | cons c w ih =>
    intro S h i
    cases i with
    | zero => exact ⟨S, h⟩
    | succ i =>
      obtain ⟨a, s, S', hg, rfl, hP⟩ := h
      exact ih _ hP i
theorem tm_P_cons {g : tm_G} {S w : List Nat} {c : Nat} (h : tm_P g S (c :: w)) : ∃ a s S', g c = some (a, s) ∧ S = s :: S' ∧ tm_P g (a ++ S') w := h
theorem tm_P_suf {g : tm_G} {w S : List Nat} (h : tm_P g S w) {i : Nat} (hi : i < w.length) : ∃ a s S', g (tm_at w i) = some (a, s) ∧ tm_P g (s :: S') (w.drop i) ∧ tm_P g (a ++ S') (w.drop (i + 1)) := by
  obtain ⟨S1, h1⟩ := tm_P_drop w S h i
  have h2 := h1
  rw [tm_drop_cons hi] at h2
  obtain ⟨a, s, S', hg, rfl, hP⟩ := h2
  exact ⟨a, s, S', hg, h1, hP⟩
theorem tm_P_sym {g : tm_G} {w S : List Nat} (h : tm_P g S w) {c : Nat} (hc : c ∈ w) : ∃ a s, g c = some (a, s) := by
  obtain ⟨i, hi, rfl⟩ := tm_mem_at hc
  obtain ⟨a, s, S', hg, _⟩ := tm_P_suf h hi
  exact ⟨a, s, hg⟩
theorem tm_P_mono {g g' : tm_G} (hm : ∀ c p, g c = some p → g' c = some p) (w : List Nat) : ∀ S, tm_P g S w → tm_P g' S w := by
  induction w with
  | nil => exact fun S h => h
  | cons c w ih =>
    intro S h
    obtain ⟨a, s, S', hg, rfl, hP⟩ := h
    exact ⟨a, s, S', hm _ _ hg, rfl, ih _ hP⟩
theorem tm_P_ne {g : tm_G} {s : Nat} {S w : List Nat} (h : tm_P g (s :: S) w) : 0 < w.length := by
  cases w with
  | nil => exact absurd h (fun z => nomatch (show s :: S = [] from z))
  | cons c w => exact Nat.succ_pos _
def tm_e (g : tm_G) (w : List Nat) (q : Nat) : Nat := q + tm_en g 1 (w.drop q)
def tm_sub (g : tm_G) (w : List Nat) (q : Nat) : List Nat := (w.drop q).take (tm_en g 1 (w.drop q))
theorem tm_e_rec (g : tm_G) {w : List Nat} {q : Nat} (h : q < w.length) : tm_e g w q = (q + 1) + tm_en g (tm_ar g (tm_at w q)) (w.drop (q + 1)) := by
  unfold tm_e
  rw [tm_drop_cons h, show (1 : Nat) = 0 + 1 from rfl, tm_en_s, Nat.add_zero]
  omega
theorem tm_e_gt (g : tm_G) {w : List Nat} {q : Nat} (h : q < w.length) : q < tm_e g w q := by
  rw [tm_e_rec g h]
  omega
theorem tm_e_le (g : tm_G) {w : List Nat} {q : Nat} (h : q ≤ w.length) : tm_e g w q ≤ w.length := by
  unfold tm_e
  have := tm_en_le g (w.drop q) 1
  rw [List.length_drop] at this
  omega
theorem tm_e_ge (g : tm_G) {w : List Nat} {q : Nat} (h : w.length ≤ q) : tm_e g w q = q := by
  unfold tm_e
  rw [List.drop_eq_nil_of_le h, tm_en_nil, Nat.add_zero]
theorem tm_e_iter (g : tm_G) (w : List Nat) (q j : Nat) : q + tm_en g (j + 1) (w.drop q) = tm_e g w (q + tm_en g j (w.drop q)) := by
  unfold tm_e
  rw [tm_en_add g (w.drop q) j 1, List.drop_drop]
  omega
theorem tm_sub_len (g : tm_G) {w : List Nat} {q : Nat} (h : q ≤ w.length) : (tm_sub g w q).length = tm_e g w q - q := by
  unfold tm_sub tm_e
  have := tm_en_le g (w.drop q) 1
  rw [List.length_take]
  omega
theorem tm_sub_at (g : tm_G) {w : List Nat} {q i : Nat} (h : q + i < tm_e g w q) : tm_at (tm_sub g w q) i = tm_at w (q + i) := by
  unfold tm_e at h
  unfold tm_sub
  rw [tm_at_take (by omega), tm_at_drop]
theorem tm_sub_mem {g : tm_G} {w : List Nat} {q c : Nat} (h : c ∈ tm_sub g w q) : c ∈ w := List.mem_of_mem_drop (List.mem_of_mem_take h)
theorem tm_sub_P {g : tm_G} {w : List Nat} {q s : Nat} {S : List Nat} (h : tm_P g (s :: S) (w.drop q)) : tm_P g [s] (tm_sub g w q) ∧ tm_P g S (w.drop (tm_e g w q)) := by
  obtain ⟨h1, h2⟩ := tm_P_en (w.drop q) [s] S h
  rw [List.drop_drop] at h2
  exact ⟨h1, h2⟩
end
section
/-! 02: matching, filled patterns, REPLACE: pure -/
def tm_vn (c : Nat) : Option Nat := if 97 ≤ c ∧ c ≤ 104 then some (c - 97) else if 112 ≤ c ∧ c ≤ 119 then some (c - 104) else none
def tm_vc (v : Nat) : Nat := if v < 8 then 97 + v else 104 + v
theorem tm_vn_ch {c v : Nat} (h : tm_vn c = some v) : c = tm_vc v ∧ v < 16 := by
  unfold tm_vn at h
  split at h
  · have := Option.some.inj h
    unfold tm_vc
    rw [if_pos (by omega)]
    omega
  · split at h
    · have := Option.some.inj h
      unfold tm_vc
      rw [if_neg (by omega)]
      omega
    · cases h
theorem tm_vn_vc {v : Nat} (h : v < 16) : tm_vn (tm_vc v) = some v := by
  unfold tm_vn tm_vc
  by_cases h8 : v < 8
  · rw [if_pos h8, if_pos (by omega)]
    exact congrArg some (by omega)
  · rw [if_neg h8, if_neg (by omega), if_pos (by omega)]
    exact congrArg some (by omega)
theorem tm_vn_inj {c d v : Nat} (h : tm_vn c = some v) (h2 : tm_vn d = some v) : c = d := by
  rw [(tm_vn_ch h).1, (tm_vn_ch h2).1]
def tm_bu (b : Nat → Option Nat) (v q : Nat) : Nat → Option Nat := fun i => if i = v then some q else b i
def tm_mt (g : tm_G) (pat : Bool) (w : List Nat) : List Nat → Nat → (Nat → Option Nat) → Option (Nat × (Nat → Option Nat))
  | [], q, b => some (q, b)
  | c :: p, q, b =>
    if q < w.length then
      match (if pat = true then tm_vn c else none) with
      | some v => match b v with
        | none => tm_mt g pat w p (tm_e g w q) (tm_bu b v q)
        | some q0 => if tm_sub g w q0 = tm_sub g w q then tm_mt g pat w p (tm_e g w q) b else none
      | none => if tm_at w q = c then tm_mt g pat w p (q + 1) b else none
    else none
theorem tm_mt_nil {g : tm_G} {pat : Bool} {w : List Nat} {q : Nat} {b : Nat → Option Nat} : tm_mt g pat w [] q b = some (q, b) := by simp [tm_mt]
theorem tm_mt_out {g : tm_G} {pat : Bool} {w p : List Nat} {c q : Nat} {b : Nat → Option Nat} (h : w.length ≤ q) : tm_mt g pat w (c :: p) q b = none := by
  rw [tm_mt, if_neg (by omega)]
theorem tm_mt_new {g : tm_G} {w p : List Nat} {c q v : Nat} {b : Nat → Option Nat} (hq : q < w.length) (hv : tm_vn c = some v) (hb : b v = none) : tm_mt g true w (c :: p) q b = tm_mt g true w p (tm_e g w q) (tm_bu b v q) := by
  rw [tm_mt, if_pos hq, if_pos rfl, hv]
  dsimp only
  rw [hb]
theorem tm_mt_old {g : tm_G} {w p : List Nat} {c q v q0 : Nat} {b : Nat → Option Nat} (hq : q < w.length) (hv : tm_vn c = some v) (hb : b v = some q0) : tm_mt g true w (c :: p) q b = if tm_sub g w q0 = tm_sub g w q then tm_mt g true w p (tm_e g w q) b else none := by
  rw [tm_mt, if_pos hq, if_pos rfl, hv]
  dsimp only
  rw [hb]
theorem tm_mt_sel {pat : Bool} {c : Nat} (h : pat = false ∨ tm_vn c = none) : (if pat = true then tm_vn c else none) = none := by
  rcases h with h | h
  · rw [h, if_neg (by decide)]
  · rw [h]
    split <;> rfl
theorem tm_mt_sym {g : tm_G} {pat : Bool} {w p : List Nat} {c q : Nat} {b : Nat → Option Nat} (hq : q < w.length) (h : pat = false ∨ tm_vn c = none) : tm_mt g pat w (c :: p) q b = if tm_at w q = c then tm_mt g pat w p (q + 1) b else none := by
  rw [tm_mt, if_pos hq, tm_mt_sel h]
theorem tm_mt_inv {g : tm_G} {pat : Bool} {w p : List Nat} {c q : Nat} {b : Nat → Option Nat} {r : Nat × (Nat → Option Nat)} (h : tm_mt g pat w (c :: p) q b = some r) :
    q < w.length ∧ ((∃ v, pat = true ∧ tm_vn c = some v ∧ ((b v = none ∧ tm_mt g pat w p (tm_e g w q) (tm_bu b v q) = some r) ∨ (∃ q0, b v = some q0 ∧ tm_sub g w q0 = tm_sub g w q ∧ tm_mt g pat w p (tm_e g w q) b = some r))) ∨ ((pat = false ∨ tm_vn c = none) ∧ tm_at w q = c ∧ tm_mt g pat w p (q + 1) b = some r)) := by
  by_cases hq : q < w.length
  · refine ⟨hq, ?_⟩
    by_cases hs : pat = false ∨ tm_vn c = none
    · right
      rw [tm_mt_sym hq hs] at h
      by_cases hc : tm_at w q = c
      · rw [if_pos hc] at h
        exact ⟨hs, hc, h⟩
      · rw [if_neg hc] at h
        cases h
    · left
      have hp : pat = true := by
        cases pat with
        | false => exact absurd (Or.inl rfl) hs
        | true => rfl
      subst hp
      cases hv : tm_vn c with
      | none => exact absurd (Or.inr hv) hs
      | some v =>
        refine ⟨v, rfl, rfl, ?_⟩
        cases hb : b v with
        | none =>
          rw [tm_mt_new hq hv hb] at h
          exact Or.inl ⟨rfl, h⟩
        | some q0 =>
          rw [tm_mt_old hq hv hb] at h
          by_cases he : tm_sub g w q0 = tm_sub g w q
          · rw [if_pos he] at h
            exact Or.inr ⟨q0, rfl, he, h⟩
          · rw [if_neg he] at h
            cases h
  · rw [tm_mt_out (by omega)] at h
    cases h
def tm_V (g : tm_G) : Prop := ∀ c v, tm_vn c = some v → ∃ s, g c = some ([], s)
theorem tm_V_ar {g : tm_G} (hv : tm_V g) {c v : Nat} (h : tm_vn c = some v) : tm_ar g c = 0 := by
  obtain ⟨s, hs⟩ := hv c v h
  rw [tm_ar_some hs]
  rfl
theorem tm_mt_end {g : tm_G} {pat : Bool} {w : List Nat} (hv : tm_V g) (p : List Nat) : ∀ S q b r, tm_P g S p → tm_mt g pat w p q b = some r → r.1 = q + tm_en g S.length (w.drop q) := by
  induction p with
  | nil =>
    intro S q b r hP h
    have hS : S = [] := hP
    rw [tm_mt_nil] at h
    rw [← Option.some.inj h, hS, List.length_nil, tm_en_0]
    rfl
  | cons c p ih =>
    intro S q b r hP h
    obtain ⟨a, s, S', hg, rfl, hP'⟩ := hP
    obtain ⟨hq, hc⟩ := tm_mt_inv h
    rcases hc with ⟨v, _, hvc, hb⟩ | ⟨_, hat, hm⟩
    · obtain ⟨s2, hg2⟩ := hv c v hvc
      rw [hg] at hg2
      obtain ⟨rfl, rfl⟩ := Prod.mk.inj (Option.some.inj hg2)
      rw [List.nil_append] at hP'
      have hm : ∃ b2, tm_mt g pat w p (tm_e g w q) b2 = some r := by
        rcases hb with ⟨_, hm⟩ | ⟨_, _, _, hm⟩
        · exact ⟨_, hm⟩
        · exact ⟨_, hm⟩
      obtain ⟨b2, hm⟩ := hm
      rw [ih _ _ _ _ hP' hm, List.length_cons, Nat.add_comm S'.length 1, tm_en_add g (w.drop q) 1 S'.length, List.drop_drop]
      unfold tm_e
      omega
    · rw [ih _ _ _ _ hP' hm, List.length_cons, tm_drop_cons hq, hat, tm_en_s, tm_ar_some hg, List.length_append]
      omega
theorem tm_mt_pos {g : tm_G} {pat : Bool} {w : List Nat} (p : List Nat) : ∀ q b r, (∀ v q0, b v = some q0 → q0 < w.length) → tm_mt g pat w p q b = some r → ∀ v q0, r.2 v = some q0 → q0 < w.length := by
  induction p with
  | nil =>
    intro q b r hb h
    rw [tm_mt_nil] at h
    rw [← Option.some.inj h]
    exact hb
  | cons c p ih =>
    intro q b r hb h
    obtain ⟨hq, hc⟩ := tm_mt_inv h
    rcases hc with ⟨v, _, hvc, ⟨_, hm⟩ | ⟨_, _, _, hm⟩⟩ | ⟨_, hat, hm⟩
    · refine ih _ _ _ ?_ hm
      intro v2 q0 h2
      unfold tm_bu at h2
      by_cases e : v2 = v
      · rw [if_pos e] at h2
        rw [← Option.some.inj h2]
        exact hq
      · rw [if_neg e] at h2
        exact hb _ _ h2
    · exact ih _ _ _ hb hm
    · exact ih _ _ _ hb hm
theorem tm_mt_fix {g : tm_G} {w : List Nat} (p : List Nat) : ∀ q b r, tm_mt g false w p q b = some r → r.2 = b := by
  induction p with
  | nil =>
    intro q b r h
    rw [tm_mt_nil] at h
    rw [← Option.some.inj h]
  | cons c p ih =>
    intro q b r h
    obtain ⟨hq, hc⟩ := tm_mt_inv h
    rcases hc with ⟨v, hp, _⟩ | ⟨_, hat, hm⟩
    · cases hp
    · exact ih _ _ _ hm
def tm_T (g : tm_G) (w : List Nat) (b : Nat → Option Nat) : Prop := ∀ c v q0, tm_vn c = some v → b v = some q0 → ∃ s, g c = some ([], s) ∧ tm_P g [s] (tm_sub g w q0)
theorem tm_T_none {g : tm_G} {w : List Nat} : tm_T g w (fun _ => none) := fun _ _ _ _ h => nomatch h
theorem tm_mt_ty {g : tm_G} {pat : Bool} {w : List Nat} (hv : tm_V g) (p : List Nat) : ∀ S S2 q b r, tm_P g S p → tm_P g (S ++ S2) (w.drop q) → tm_T g w b → tm_mt g pat w p q b = some r → tm_T g w r.2 := by
  induction p with
  | nil =>
    intro S S2 q b r hP hW hT h
    rw [tm_mt_nil] at h
    rw [← Option.some.inj h]
    exact hT
  | cons c p ih =>
    intro S S2 q b r hP hW hT h
    obtain ⟨a, s, S', hg, rfl, hP'⟩ := hP
    obtain ⟨hq, hc⟩ := tm_mt_inv h
    rw [List.cons_append] at hW
    rcases hc with ⟨v, _, hvc, hb⟩ | ⟨_, hat, hm⟩
    · obtain ⟨s2, hg2⟩ := hv c v hvc
      rw [hg] at hg2
      obtain ⟨rfl, rfl⟩ := Prod.mk.inj (Option.some.inj hg2)
      rw [List.nil_append] at hP'
      obtain ⟨hs, hr⟩ := tm_sub_P hW
      rcases hb with ⟨_, hm⟩ | ⟨_, _, _, hm⟩
      · refine ih _ _ _ _ _ hP' hr ?_ hm
        intro c2 v2 q0 hv2 h2
        unfold tm_bu at h2
        by_cases e : v2 = v
        · rw [if_pos e] at h2
          subst e
          rw [← Option.some.inj h2, tm_vn_inj hv2 hvc]
          exact ⟨s, hg, hs⟩
        · rw [if_neg e] at h2
          exact hT _ _ _ hv2 h2
      · exact ih _ _ _ _ _ hP' hr hT hm
    · rw [tm_drop_cons hq, hat] at hW
      obtain ⟨a2, s2, S3, hg2, hS, hP2⟩ := hW
      rw [hg] at hg2
      obtain ⟨rfl, rfl⟩ := Prod.mk.inj (Option.some.inj hg2)
      obtain ⟨_, rfl⟩ := List.cons.inj hS
      rw [← List.append_assoc] at hP2
      exact ih _ _ _ _ _ hP' hP2 hT hm
theorem tm_mt_vars {g : tm_G} {w : List Nat} (hv : tm_V g) (p : List Nat) : ∀ S S2 q b, (∀ c, c ∈ p → ∃ v, tm_vn c = some v ∧ b v = none) → p.Nodup → tm_P g S p → tm_P g (S ++ S2) (w.drop q) → ∃ r, tm_mt g true w p q b = some r := by
  induction p with
  | nil =>
    intro S S2 q b _ _ _ _
    exact ⟨_, tm_mt_nil⟩
  | cons c p ih =>
    intro S S2 q b hb hn hP hW
    obtain ⟨a, s, S', hg, rfl, hP'⟩ := hP
    rw [List.cons_append] at hW
    have hq : q < w.length := by
      have := tm_P_ne hW
      rw [List.length_drop] at this
      omega
    obtain ⟨v, hvc, hbv⟩ := hb c (List.mem_cons_self)
    obtain ⟨s2, hg2⟩ := hv c v hvc
    rw [hg] at hg2
    obtain ⟨rfl, rfl⟩ := Prod.mk.inj (Option.some.inj hg2)
    rw [List.nil_append] at hP'
    obtain ⟨hs, hr⟩ := tm_sub_P hW
    rw [tm_mt_new hq hvc hbv]
    obtain ⟨hn1, hn2⟩ := List.nodup_cons.mp hn
    refine ih _ _ _ _ ?_ hn2 hP' hr
    intro c2 h2
    obtain ⟨v2, hv2, hb2⟩ := hb c2 (List.mem_cons_of_mem _ h2)
    refine ⟨v2, hv2, ?_⟩
    unfold tm_bu
    rw [if_neg ?_]
    · exact hb2
    · intro e
      subst e
      rw [tm_vn_inj hv2 hvc] at h2
      exact hn1 h2
/-! filled patterns -/
def tm_i1 (g : tm_G) (w : List Nat) (b : Nat → Option Nat) (c : Nat) : List Nat := match tm_vn c with
  | some v => match b v with
    | some q => tm_sub g w q
    | none => [c]
  | none => [c]
theorem tm_i1_n {g : tm_G} {w : List Nat} {b : Nat → Option Nat} {c : Nat} (h : tm_vn c = none) : tm_i1 g w b c = [c] := by
  unfold tm_i1
  rw [h]
theorem tm_i1_u {g : tm_G} {w : List Nat} {b : Nat → Option Nat} {c v : Nat} (h : tm_vn c = some v) (hb : b v = none) : tm_i1 g w b c = [c] := by
  unfold tm_i1
  rw [h]
  dsimp only
  rw [hb]
theorem tm_i1_b {g : tm_G} {w : List Nat} {b : Nat → Option Nat} {c v q : Nat} (h : tm_vn c = some v) (hb : b v = some q) : tm_i1 g w b c = tm_sub g w q := by
  unfold tm_i1
  rw [h]
  dsimp only
  rw [hb]
theorem tm_i1_c (g : tm_G) (w : List Nat) (b : Nat → Option Nat) (c : Nat) : tm_i1 g w b c = [c] ∨ ∃ v q, tm_vn c = some v ∧ b v = some q ∧ tm_i1 g w b c = tm_sub g w q := by
  cases h : tm_vn c with
  | none => exact Or.inl (tm_i1_n h)
  | some v =>
    cases hb : b v with
    | none => exact Or.inl (tm_i1_u h hb)
    | some q => exact Or.inr ⟨v, q, rfl, hb, tm_i1_b h hb⟩
def tm_in (g : tm_G) (w : List Nat) (b : Nat → Option Nat) : List Nat → List Nat
  | [] => []
  | c :: p => tm_i1 g w b c ++ tm_in g w b p
theorem tm_in_ty {g : tm_G} {w : List Nat} {b : Nat → Option Nat} (hT : tm_T g w b) (p : List Nat) : ∀ S, tm_P g S p → tm_P g S (tm_in g w b p) := by
  induction p with
  | nil => exact fun S h => h
  | cons c p ih =>
    intro S h
    obtain ⟨a, s, S', hg, rfl, hP⟩ := h
    have hi := ih _ hP
    show tm_P g (s :: S') (tm_i1 g w b c ++ tm_in g w b p)
    rcases tm_i1_c g w b c with e | ⟨v, q, hv, hb, e⟩
    · rw [e]
      exact ⟨a, s, S', hg, rfl, hi⟩
    · obtain ⟨s2, hg2, hs⟩ := hT c v q hv hb
      rw [hg] at hg2
      obtain ⟨rfl, rfl⟩ := Prod.mk.inj (Option.some.inj hg2)
      rw [e]
      exact tm_P_app hi _ [s] hs
theorem tm_in_mem {g : tm_G} {w : List Nat} {b : Nat → Option Nat} {d : Nat} (p : List Nat) : d ∈ tm_in g w b p → d ∈ p ∨ d ∈ w := by
  induction p with
  | nil => exact fun h => Or.inl h
  | cons c p ih =>
    intro h
    have h' : d ∈ tm_i1 g w b c ++ tm_in g w b p := h
    rcases List.mem_append.mp h' with h1 | h1
    · rcases tm_i1_c g w b c with e | ⟨v, q, hv, hb, e⟩
      · rw [e] at h1
        rw [List.mem_singleton.mp h1]
        exact Or.inl (List.mem_cons_self)
      · rw [e] at h1
        exact Or.inr (tm_sub_mem h1)
    · rcases ih h1 with h2 | h2
      · exact Or.inl (List.mem_cons_of_mem _ h2)
      · exact Or.inr h2
theorem tm_in_none {g : tm_G} {w : List Nat} (p : List Nat) : tm_in g w (fun _ => none) p = p := by
  induction p with
  | nil => rfl
  | cons c p ih =>
    show tm_i1 g w (fun _ => none) c ++ tm_in g w (fun _ => none) p = c :: p
    rw [ih]
    cases h : tm_vn c with
    | none => rw [tm_i1_n h]; rfl
    | some v => rw [tm_i1_u h rfl]; rfl
/-! REPLACE from position i on: the number of hits and the text -/
def tm_rp (g : tm_G) (pat : Bool) (w fr to : List Nat) : Nat → Nat → Nat × List Nat
  | 0, _ => (0, [])
  | n + 1, i =>
    if i < w.length then
      match tm_mt g pat w fr i (fun _ => none) with
      | some r => ((tm_rp g pat w fr to n (tm_e g w i)).1 + 1, tm_in g w r.2 to ++ (tm_rp g pat w fr to n (tm_e g w i)).2)
      | none => ((tm_rp g pat w fr to n (i + 1)).1, tm_at w i :: (tm_rp g pat w fr to n (i + 1)).2)
    else (0, [])
theorem tm_rp_out {g : tm_G} {pat : Bool} {w fr to : List Nat} {n i : Nat} (h : w.length ≤ i) : tm_rp g pat w fr to n i = (0, []) := by
  cases n with
  | zero => rfl
  | succ n => rw [tm_rp, if_neg (by omega)]
theorem tm_rp_hit {g : tm_G} {pat : Bool} {w fr to : List Nat} {n i : Nat} {r : Nat × (Nat → Option Nat)} (h : i < w.length) (hm : tm_mt g pat w fr i (fun _ => none) = some r) : tm_rp g pat w fr to (n + 1) i = ((tm_rp g pat w fr to n (tm_e g w i)).1 + 1, tm_in g w r.2 to ++ (tm_rp g pat w fr to n (tm_e g w i)).2) := by
  rw [tm_rp, if_pos h, hm]
theorem tm_rp_miss {g : tm_G} {pat : Bool} {w fr to : List Nat} {n i : Nat} (h : i < w.length) (hm : tm_mt g pat w fr i (fun _ => none) = none) : tm_rp g pat w fr to (n + 1) i = ((tm_rp g pat w fr to n (i + 1)).1, tm_at w i :: (tm_rp g pat w fr to n (i + 1)).2) := by
  rw [tm_rp, if_pos h, hm]
theorem tm_rp_fuel {g : tm_G} {pat : Bool} {w fr to : List Nat} (n : Nat) : ∀ m i, w.length - i ≤ n → w.length - i ≤ m → tm_rp g pat w fr to n i = tm_rp g pat w fr to m i := by
  induction n with
  | zero =>
    intro m i h _
    rw [tm_rp_out (by omega), tm_rp_out (by omega)]
  | succ n ih =>
    intro m i h h2
    by_cases hi : i < w.length
    · cases m with
      | zero => omega
      | succ m =>
        have he := tm_e_gt g hi
        cases hm : tm_mt g pat w fr i (fun _ => none) with
        | some r => rw [tm_rp_hit hi hm, tm_rp_hit hi hm, ih m _ (by omega) (by omega)]
        | none => rw [tm_rp_miss hi hm, tm_rp_miss hi hm, ih m _ (by omega) (by omega)]
    · rw [tm_rp_out (by omega), tm_rp_out (by omega)]
def tm_R (g : tm_G) (pat : Bool) (w fr to : List Nat) (i : Nat) : Nat × List Nat := tm_rp g pat w fr to w.length i
theorem tm_R_out {g : tm_G} {pat : Bool} {w fr to : List Nat} {i : Nat} (h : w.length ≤ i) : tm_R g pat w fr to i = (0, []) := tm_rp_out h
theorem tm_R_hit {g : tm_G} {pat : Bool} {w fr to : List Nat} {i : Nat} {r : Nat × (Nat → Option Nat)} (h : i < w.length) (hm : tm_mt g pat w fr i (fun _ => none) = some r) : tm_R g pat w fr to i = ((tm_R g pat w fr to (tm_e g w i)).1 + 1, tm_in g w r.2 to ++ (tm_R g pat w fr to (tm_e g w i)).2) := by
  unfold tm_R
  have he := tm_e_gt g h
  rw [tm_rp_fuel w.length (w.length + 1) i (by omega) (by omega), tm_rp_hit h hm]
theorem tm_R_miss {g : tm_G} {pat : Bool} {w fr to : List Nat} {i : Nat} (h : i < w.length) (hm : tm_mt g pat w fr i (fun _ => none) = none) : tm_R g pat w fr to i = ((tm_R g pat w fr to (i + 1)).1, tm_at w i :: (tm_R g pat w fr to (i + 1)).2) := by
  unfold tm_R
  rw [tm_rp_fuel w.length (w.length + 1) i (by omega) (by omega), tm_rp_miss h hm]
theorem tm_R_cnt {g : tm_G} {pat : Bool} {w fr to : List Nat} : ∀ d i, w.length - i ≤ d → (tm_R g pat w fr to i).1 ≤ w.length - i := by
  intro d
  induction d with
  | zero =>
    intro i h
    rw [tm_R_out (by omega)]
    exact Nat.zero_le _
  | succ d ih =>
    intro i h
    by_cases hi : i < w.length
    · have he := tm_e_gt g hi
      cases hm : tm_mt g pat w fr i (fun _ => none) with
      | some r =>
        rw [tm_R_hit hi hm]
        have := ih (tm_e g w i) (by omega)
        dsimp only
        omega
      | none =>
        rw [tm_R_miss hi hm]
        have := ih (i + 1) (by omega)
        dsimp only
        omega
    · rw [tm_R_out (by omega)]
      exact Nat.zero_le _
theorem tm_R_len1 {g : tm_G} {w fr to : List Nat} (h1 : to.length = 1) : ∀ d i, w.length - i ≤ d → (tm_R g false w fr to i).2.length ≤ w.length - i := by
  intro d
  induction d with
  | zero =>
    intro i h
    rw [tm_R_out (by omega)]
    exact Nat.zero_le _
  | succ d ih =>
    intro i h
    by_cases hi : i < w.length
    · have he := tm_e_gt g hi
      cases hm : tm_mt g false w fr i (fun _ => none) with
      | some r =>
        rw [tm_R_hit hi hm, tm_mt_fix _ _ _ _ hm, tm_in_none]
        have := ih (tm_e g w i) (by omega)
        dsimp only
        rw [List.length_append]
        omega
      | none =>
        rw [tm_R_miss hi hm]
        have := ih (i + 1) (by omega)
        dsimp only
        rw [List.length_cons]
        omega
    · rw [tm_R_out (by omega)]
      exact Nat.zero_le _
theorem tm_R_mem {g : tm_G} {pat : Bool} {w fr to : List Nat} {c : Nat} : ∀ d i, w.length - i ≤ d → c ∈ (tm_R g pat w fr to i).2 → c ∈ to ∨ c ∈ w := by
  intro d
  induction d with
  | zero =>
    intro i h
    rw [tm_R_out (by omega)]
    exact fun h => nomatch h
  | succ d ih =>
    intro i h
    by_cases hi : i < w.length
    · have he := tm_e_gt g hi
      cases hm : tm_mt g pat w fr i (fun _ => none) with
      | some r =>
        rw [tm_R_hit hi hm]
        dsimp only
        intro hc
        rcases List.mem_append.mp hc with h1 | h1
        · exact tm_in_mem _ h1
        · exact ih (tm_e g w i) (by omega) h1
      | none =>
        rw [tm_R_miss hi hm]
        dsimp only
        intro hc
        rcases List.mem_cons.mp hc with h1 | h1
        · rw [h1]
          exact Or.inr (tm_at_mem hi)
        · exact ih (i + 1) (by omega) h1
    · rw [tm_R_out (by omega)]
      exact fun h => nomatch h
theorem tm_R_ty {g : tm_G} {pat : Bool} {w p0 to : List Nat} {c0 s : Nat} (hv : tm_V g) (hf : tm_P g [s] (c0 :: p0)) (ht : tm_P g [s] to) (hh : pat = false ∨ tm_vn c0 = none) : ∀ d i S, w.length - i ≤ d → tm_P g S (w.drop i) → tm_P g S (tm_R g pat w (c0 :: p0) to i).2 := by
  intro d
  induction d with
  | zero =>
    intro i S h hP
    rw [tm_R_out (by omega)]
    rw [List.drop_eq_nil_of_le (by omega)] at hP
    exact hP
  | succ d ih =>
    intro i S h hP
    by_cases hi : i < w.length
    · have he := tm_e_gt g hi
      have hP0 := hP
      rw [tm_drop_cons hi] at hP
      obtain ⟨a1, s1, S', hg1, rfl, hP1⟩ := hP
      cases hm : tm_mt g pat w (c0 :: p0) i (fun _ => none) with
      | some r =>
        rw [tm_R_hit hi hm]
        dsimp only
        obtain ⟨_, hc⟩ := tm_mt_inv hm
        have hat : tm_at w i = c0 := by
          rcases hc with ⟨v, hp, hvc, _⟩ | ⟨_, hat, _⟩
          · rcases hh with hh | hh
            · rw [hh] at hp; cases hp
            · rw [hh] at hvc; cases hvc
          · exact hat
        have hf' := hf
        obtain ⟨a, s2, S2, hg, hS, _⟩ := hf'
        obtain ⟨rfl, _⟩ := List.cons.inj hS
        rw [hat, hg] at hg1
        obtain ⟨rfl, rfl⟩ := Prod.mk.inj (Option.some.inj hg1)
        have hT := tm_mt_ty hv _ [s] S' i _ r hf hP0 tm_T_none hm
        have hr := (tm_sub_P hP0).2
        exact tm_P_app (ih _ _ (by omega) hr) _ [s] (tm_in_ty hT _ _ ht)
      | none =>
        rw [tm_R_miss hi hm]
        exact ⟨a1, s1, S', hg1, rfl, ih _ _ (by omega) hP1⟩
    · rw [tm_R_out (by omega)]
      rw [List.drop_eq_nil_of_le (by omega)] at hP
      exact hP
theorem tm_R_one {g : tm_G} {w to : List Nat} {v : Nat} (ha : tm_ar g v = 0) : ∀ d i, w.length - i ≤ d → (tm_R g false w [v] to i).2 = (w.drop i).flatMap (fun c => if c = v then to else [c]) := by
  intro d
  induction d with
  | zero =>
    intro i h
    rw [tm_R_out (by omega), List.drop_eq_nil_of_le (by omega)]
    rfl
  | succ d ih =>
    intro i h
    by_cases hi : i < w.length
    · rw [tm_drop_cons hi, List.flatMap_cons]
      by_cases hc : tm_at w i = v
      · have hm : tm_mt g false w [v] i (fun _ => none) = some (i + 1, fun _ => none) := by
          rw [tm_mt_sym hi (Or.inl rfl), if_pos hc, tm_mt_nil]
        rw [tm_R_hit hi hm, tm_in_none, if_pos hc]
        have he : tm_e g w i = i + 1 := by
          rw [tm_e_rec g hi, hc, ha, tm_en_0]
        rw [he, ih (i + 1) (by omega)]
      · have hm : tm_mt g false w [v] i (fun _ => none) = none := by
          rw [tm_mt_sym hi (Or.inl rfl), if_neg hc]
        rw [tm_R_miss hi hm, if_neg hc, ih (i + 1) (by omega)]
        rfl
    · rw [tm_R_out (by omega), List.drop_eq_nil_of_le (by omega)]
      rfl
end
section
/-! 03: NORMALIZE: pure -/
def tm_kd (c : Nat) : Option Nat := if c = 90 ∨ c = 78 then some 0 else if c = 83 ∨ c = 67 then some 1 else none
abbrev tm_fn (c : Nat) : Prop := 70 ≤ c ∧ c ≤ 77
abbrev tm_rd (w : List Nat) (i : Nat) : Prop := tm_fn (tm_at w i) ∧ tm_kd (tm_at w (i + 1)) ≠ none
def tm_rx (w : List Nat) : Nat → Option Nat
  | 0 => none
  | i + 1 => if tm_rd w i then some i else tm_rx w i
def tm_ri (w : List Nat) (i : Nat) : Nat := 4 * (tm_at w i - 70) + 2 * (tm_kd (tm_at w (i + 1))).getD 0
def tm_st (g : tm_G) (R : Nat → List Nat) (w : List Nat) (i : Nat) : List Nat := match tm_mt g true w (R (tm_ri w i)) i (fun _ => none) with
  | some r => w.take i ++ (tm_in g w r.2 (R (tm_ri w i + 1)) ++ w.drop (tm_e g w i))
  | none => w
def tm_nz (g : tm_G) (R : Nat → List Nat) : Nat → List Nat → Option (List Nat)
  | 0, w => match tm_rx w w.length with
    | none => some w
    | some _ => none
  | n + 1, w => match tm_rx w w.length with
    | none => some w
    | some i => if (tm_st g R w i).length ≤ 48 then tm_nz g R n (tm_st g R w i) else none
theorem tm_nz_no {g : tm_G} {R : Nat → List Nat} {n : Nat} {w : List Nat} (h : tm_rx w w.length = none) : tm_nz g R n w = some w := by
  cases n with
  | zero => rw [tm_nz, h]
  | succ n => rw [tm_nz, h]
theorem tm_nz_0 {g : tm_G} {R : Nat → List Nat} {w : List Nat} {i : Nat} (h : tm_rx w w.length = some i) : tm_nz g R 0 w = none := by
  rw [tm_nz, h]
theorem tm_nz_s {g : tm_G} {R : Nat → List Nat} {n : Nat} {w : List Nat} {i : Nat} (h : tm_rx w w.length = some i) : tm_nz g R (n + 1) w = if (tm_st g R w i).length ≤ 48 then tm_nz g R n (tm_st g R w i) else none := by
  rw [tm_nz, h]
theorem tm_rx_lt {w : List Nat} (n : Nat) : ∀ i, tm_rx w n = some i → i < n ∧ tm_rd w i := by
  induction n with
  | zero => intro i h; cases h
  | succ n ih =>
    intro i h
    rw [tm_rx] at h
    by_cases hr : tm_rd w n
    · rw [if_pos hr] at h
      rw [← Option.some.inj h]
      exact ⟨Nat.lt_succ_self _, hr⟩
    · rw [if_neg hr] at h
      obtain ⟨h1, h2⟩ := ih i h
      exact ⟨by omega, h2⟩
theorem tm_kd_0 : tm_kd 0 = none := by decide
theorem tm_rd_lt {w : List Nat} {i : Nat} (h : tm_rd w i) : i + 1 < w.length := by
  apply Nat.lt_of_not_le
  intro hge
  apply h.2
  rw [tm_at_ge hge]
  exact tm_kd_0
theorem tm_kd_c {c k : Nat} (h : tm_kd c = some k) : (k = 0 ∧ (c = 90 ∨ c = 78)) ∨ (k = 1 ∧ (c = 83 ∨ c = 67)) := by
  unfold tm_kd at h
  split at h
  · exact Or.inl ⟨(Option.some.inj h).symm, by assumption⟩
  · split at h
    · exact Or.inr ⟨(Option.some.inj h).symm, by assumption⟩
    · cases h
theorem tm_kd_vn {c k : Nat} (h : tm_kd c = some k) : tm_vn c = none := by
  have := tm_kd_c h
  unfold tm_vn
  rw [if_neg (by omega), if_neg (by omega)]
theorem tm_fn_vn {c : Nat} (h : tm_fn c) : tm_vn c = none := by
  unfold tm_vn
  rw [if_neg (by omega), if_neg (by omega)]
/-- what a signature must keep -/
def tm_GS (g : tm_G) : Prop := tm_V g ∧ (∀ c d k a a' s, tm_kd c = some k → tm_kd d = some k → g c = some (a, s) → g d = some (a', s) → c = d) ∧ (∀ c a s, tm_fn c → g c = some (a, s) → a ≠ [])
def tm_cp (R : Nat → List Nat) (c : Nat) : Prop := R (4 * (c - 70)) ≠ [] ∧ R (4 * (c - 70) + 2) ≠ []
def tm_FC (R : Nat → List Nat) (w : List Nat) : Prop := ∀ c, c ∈ w → tm_fn c → tm_cp R c
/-- the rule at index 4 f + 2 k -/
def tm_RW (g : tm_G) (R : Nat → List Nat) (f k : Nat) : Prop := ∃ K vs s, R (4 * f + 2 * k) = (70 + f) :: K :: vs ∧ tm_kd K = some k ∧ (∀ c, c ∈ vs → ∃ v, tm_vn c = some v) ∧ vs.Nodup ∧ tm_P g [s] (R (4 * f + 2 * k)) ∧ tm_P g [s] (R (4 * f + 2 * k + 1)) ∧ (∀ c, c ∈ R (4 * f + 2 * k + 1) → tm_fn c → c = 70 + f ∨ tm_cp R c)
def tm_RU (g : tm_G) (R : Nat → List Nat) : Prop := ∀ f k, f < 8 → k < 2 → R (4 * f + 2 * k) ≠ [] → tm_RW g R f k
theorem tm_P_mid {g : tm_G} {v : List Nat} (u : List Nat) : ∀ S0, tm_P g S0 (u ++ v) → ∃ S', tm_P g S' v ∧ ∀ v', tm_P g S' v' → tm_P g S0 (u ++ v') := by
  induction u with
  | nil => exact fun S0 h => ⟨S0, h, fun v' h' => h'⟩
  | cons c u ih =>
    intro S0 h
    obtain ⟨a, s, S', hg, rfl, hP⟩ := h
    obtain ⟨S2, h2, h3⟩ := ih _ hP
    exact ⟨S2, h2, fun v' h' => ⟨a, s, S', hg, rfl, h3 v' h'⟩⟩
theorem tm_st_ok {g : tm_G} {R : Nat → List Nat} {w S : List Nat} {i : Nat} (hG : tm_GS g) (hR : tm_RU g R) (hP : tm_P g S w) (hF : tm_FC R w) (hr : tm_rd w i) :
    ∃ r, tm_mt g true w (R (tm_ri w i)) i (fun _ => none) = some r ∧ R (tm_ri w i) ≠ [] ∧ tm_st g R w i = w.take i ++ (tm_in g w r.2 (R (tm_ri w i + 1)) ++ w.drop (tm_e g w i)) ∧ tm_P g S (tm_st g R w i) ∧ tm_FC R (tm_st g R w i) := by
  have hl := tm_rd_lt hr
  obtain ⟨af, sf, S1, hgf, hPf, hP1⟩ := tm_P_suf hP (i := i) (by omega)
  have hfn : tm_fn (tm_at w i) := hr.1
  obtain ⟨k, hk⟩ : ∃ k, tm_kd (tm_at w (i + 1)) = some k := Option.ne_none_iff_exists'.mp hr.2
  have hk2 : k < 2 := by
    have := tm_kd_c hk
    omega
  have hcp := hF _ (tm_at_mem (w := w) (i := i) (by omega)) hfn
  have hri : tm_ri w i = 4 * (tm_at w i - 70) + 2 * k := by
    unfold tm_ri
    rw [hk]
    rfl
  have hne : R (tm_ri w i) ≠ [] := by
    rw [hri]
    have : k = 0 ∨ k = 1 := by omega
    rcases this with rfl | rfl
    · exact hcp.1
    · exact hcp.2
  have hW := hR (tm_at w i - 70) k (by omega) hk2 (by rw [← hri]; exact hne)
  obtain ⟨K, vs, s, hl1, hkK, hvs, hnd, hPl, hPr, hFr⟩ := hW
  rw [← hri] at hl1 hPl hPr hFr
  rw [show 70 + (tm_at w i - 70) = tm_at w i by omega] at hl1 hFr
  have hPl0 := hPl
  rw [hl1] at hPl
  obtain ⟨a2, s2, S2, hg2, hS2, hP2⟩ := hPl
  obtain ⟨rfl, rfl⟩ := List.cons.inj hS2
  rw [hgf] at hg2
  obtain ⟨rfl, rfl⟩ := Prod.mk.inj (Option.some.inj hg2)
  cases af with
  | nil => exact absurd rfl (hG.2.2 _ _ _ hfn hgf)
  | cons s1 af =>
  rw [List.append_nil] at hP2
  obtain ⟨aK, sK, SK, hgK, hSK, hPK⟩ := hP2
  obtain ⟨rfl, rfl⟩ := List.cons.inj hSK
  have hP1' := hP1
  rw [tm_drop_cons hl, List.cons_append] at hP1'
  obtain ⟨aC, sC, SC, hgC, hSC, hPC⟩ := hP1'
  obtain ⟨rfl, rfl⟩ := List.cons.inj hSC
  have hKC := hG.2.1 _ _ _ _ _ _ hkK hk hgK hgC
  subst hKC
  rw [hgK] at hgC
  obtain ⟨rfl, _⟩ := Prod.mk.inj (Option.some.inj hgC)
  rw [← List.append_assoc] at hPC
  obtain ⟨r, hm⟩ := tm_mt_vars hG.1 vs (aK ++ af) S1 (i + 1 + 1) (fun _ => none) (fun c hc => by
    obtain ⟨v, hv⟩ := hvs c hc
    exact ⟨v, hv, rfl⟩) hnd hPK hPC
  have hmm : tm_mt g true w (R (tm_ri w i)) i (fun _ => none) = some r := by
    rw [hl1, tm_mt_sym (by omega) (Or.inr (tm_fn_vn hfn)), if_pos rfl, tm_mt_sym hl (Or.inr (tm_kd_vn hk)), if_pos rfl]
    exact hm
  have hst : tm_st g R w i = w.take i ++ (tm_in g w r.2 (R (tm_ri w i + 1)) ++ w.drop (tm_e g w i)) := by
    unfold tm_st
    rw [hmm]
  refine ⟨r, hmm, hne, hst, ?_, ?_⟩
  · rw [hst]
    have hP0 := hP
    rw [← List.take_append_drop i w] at hP0
    obtain ⟨S3, h3, h4⟩ := tm_P_mid (w.take i) S hP0
    have := tm_P_uniq _ _ _ h3 hPf
    subst this
    apply h4
    have hT := tm_mt_ty hG.1 _ _ S1 i _ r hPl0 hPf tm_T_none hmm
    exact tm_P_app (tm_sub_P hPf).2 _ _ (tm_in_ty hT _ _ hPr)
  · rw [hst]
    intro c hc hcf
    rcases List.mem_append.mp hc with h | h
    · exact hF c (List.mem_of_mem_take h) hcf
    · rcases List.mem_append.mp h with h | h
      · rcases tm_in_mem _ h with h | h
        · rcases hFr c h hcf with e | e
          · rw [e]
            exact hcp
          · exact e
        · exact hF c h hcf
      · exact hF c (List.mem_of_mem_drop h) hcf
theorem tm_nz_ok {g : tm_G} {R : Nat → List Nat} {S : List Nat} (hG : tm_GS g) (hR : tm_RU g R) (n : Nat) : ∀ w w', tm_P g S w → tm_FC R w → w.length ≤ 48 → tm_nz g R n w = some w' → tm_P g S w' ∧ tm_FC R w' ∧ w'.length ≤ 48 := by
  induction n with
  | zero =>
    intro w w' hP hF hl h
    cases hx : tm_rx w w.length with
    | none =>
      rw [tm_nz_no hx] at h
      rw [← Option.some.inj h]
      exact ⟨hP, hF, hl⟩
    | some i =>
      rw [tm_nz_0 hx] at h
      cases h
  | succ n ih =>
    intro w w' hP hF hl h
    cases hx : tm_rx w w.length with
    | none =>
      rw [tm_nz_no hx] at h
      rw [← Option.some.inj h]
      exact ⟨hP, hF, hl⟩
    | some i =>
      rw [tm_nz_s hx] at h
      obtain ⟨r, _, _, _, h1, h2⟩ := tm_st_ok hG hR hP hF (tm_rx_lt _ _ hx).2
      by_cases h3 : (tm_st g R w i).length ≤ 48
      · rw [if_pos h3] at h
        exact ih _ _ h1 h2 h3 h
      · rw [if_neg h3] at h
        cases h
end
section
/-! 04: a table of texts as one array of cells and one of lengths; bits of sorts; reading from the end -/
def mm_M (W N : Nat) (T L : Nat → Int32) (m : Nat → List Nat) : Prop := ∀ s, s < N → L s = nI (m s).length ∧ (m s).length ≤ W ∧ ∀ i, i < (m s).length → tm_at (m s) i < 256 ∧ T (s * W + i) = nI (tm_at (m s) i)
def mm_set (m : Nat → List Nat) (s : Nat) (w : List Nat) : Nat → List Nat := fun j => if j = s then w else m j
theorem mm_set_s {m : Nat → List Nat} {s : Nat} {w : List Nat} : mm_set m s w s = w := if_pos rfl
theorem mm_set_n {m : Nat → List Nat} {s j : Nat} {w : List Nat} (h : j ≠ s) : mm_set m s w j = m j := if_neg h
theorem mm_set_set {m : Nat → List Nat} {s : Nat} {u w : List Nat} : mm_set (mm_set m s u) s w = mm_set m s w := by
  funext j
  unfold mm_set
  by_cases h : j = s
  · rw [if_pos h, if_pos h]
  · rw [if_neg h, if_neg h, if_neg h]
theorem mm_set_self {m : Nat → List Nat} {s : Nat} : mm_set m s (m s) = m := by
  funext j
  unfold mm_set
  by_cases h : j = s
  · rw [if_pos h, h]
  · rw [if_neg h]
theorem mm_uu {f : Nat → Int32} {k : Nat} {x y : Int32} : upd (upd f k x) k y = upd f k y := by
  funext j
  unfold upd
  by_cases h : j = k
  · rw [if_pos h, if_pos h]
  · rw [if_neg h, if_neg h, if_neg h]
theorem mm_ue {f : Nat → Int32} {k : Nat} {x : Int32} (h : f k = x) : upd f k x = f := by
  funext j
  unfold upd
  by_cases e : j = k
  · rw [if_pos e, e, h]
  · rw [if_neg e]
theorem mm_us {f : Nat → Int32} {k : Nat} {x : Int32} : upd f k x k = x := if_pos rfl
theorem mm_un {f : Nat → Int32} {k j : Nat} {x : Int32} (h : j ≠ k) : upd f k x j = f j := if_neg h
theorem mm_len {W N : Nat} {T L : Nat → Int32} {m : Nat → List Nat} (h : mm_M W N T L m) {s : Nat} (hs : s < N) : L s = nI (m s).length := (h s hs).1
theorem mm_le {W N : Nat} {T L : Nat → Int32} {m : Nat → List Nat} (h : mm_M W N T L m) {s : Nat} (hs : s < N) : (m s).length ≤ W := (h s hs).2.1
theorem mm_t {W N : Nat} {T L : Nat → Int32} {m : Nat → List Nat} (h : mm_M W N T L m) {s i : Nat} (hs : s < N) (hi : i < (m s).length) : T (s * W + i) = nI (tm_at (m s) i) := ((h s hs).2.2 i hi).2
theorem mm_b {W N : Nat} {T L : Nat → Int32} {m : Nat → List Nat} (h : mm_M W N T L m) {s : Nat} (hs : s < N) (i : Nat) : tm_at (m s) i < 256 := by
  by_cases hi : i < (m s).length
  · exact ((h s hs).2.2 i hi).1
  · rw [tm_at_ge (by omega)]
    omega
theorem mm_mem {W N : Nat} {T L : Nat → Int32} {m : Nat → List Nat} (h : mm_M W N T L m) {s : Nat} (hs : s < N) {c : Nat} (hc : c ∈ m s) : c < 256 := by
  obtain ⟨i, _, rfl⟩ := tm_mem_at hc
  exact mm_b h hs i
theorem mm_cell {W s i s' i' : Nat} (hi : i < W) (hi' : i' < W) (h : s * W + i = s' * W + i') : s = s' ∧ i = i' := by
  have e1 : (s * W + i) / W = s := by
    rw [Nat.mul_comm, Nat.mul_add_div (by omega), Nat.div_eq_of_lt hi, Nat.add_zero]
  have e2 : (s' * W + i') / W = s' := by
    rw [Nat.mul_comm, Nat.mul_add_div (by omega), Nat.div_eq_of_lt hi', Nat.add_zero]
  rw [h] at e1
  have : s = s' := by rw [← e1, e2]
  subst this
  exact ⟨rfl, by omega⟩
/-- one more symbol behind a text -/
theorem mm_put {W N : Nat} {T L : Nat → Int32} {m : Nat → List Nat} (h : mm_M W N T L m) {s c n : Nat} (hs : s < N) (hn : (m s).length = n) (hl : n < W) (hc : c < 256) : mm_M W N (upd T (s * W + n) (nI c)) (upd L s (nI (n + 1))) (mm_set m s (m s ++ [c])) := by
  intro j hj
  by_cases e : j = s
  · subst e
    rw [mm_set_s, mm_us, List.length_append, hn]
    refine ⟨rfl, by rw [List.length_singleton]; omega, ?_⟩
    intro i hi
    rw [List.length_singleton] at hi
    by_cases e : i = n
    · subst e
      rw [mm_us, tm_at_app_r (by omega), hn, Nat.sub_self]
      exact ⟨hc, rfl⟩
    · rw [mm_un (by omega), tm_at_app_l (by omega)]
      exact (h j hj).2.2 i (by omega)
  · rw [mm_set_n e, mm_un e]
    refine ⟨(h j hj).1, (h j hj).2.1, ?_⟩
    intro i hi
    have hw := (h j hj).2.1
    rw [mm_un ?_]
    · exact (h j hj).2.2 i hi
    · intro z
      exact e (mm_cell (by omega) hl z).1
/-- a text cut to its first k symbols -/
theorem mm_cut {W N : Nat} {T L : Nat → Int32} {m : Nat → List Nat} (h : mm_M W N T L m) {s k : Nat} (hs : s < N) (hk : k ≤ (m s).length) : mm_M W N T (upd L s (nI k)) (mm_set m s ((m s).take k)) := by
  intro j hj
  by_cases e : j = s
  · subst e
    rw [mm_set_s, mm_us, List.length_take, Nat.min_eq_left hk]
    refine ⟨rfl, by have := (h j hj).2.1; omega, ?_⟩
    intro i hi
    rw [tm_at_take hi]
    exact (h j hj).2.2 i (by omega)
  · rw [mm_set_n e, mm_un e]
    exact h j hj
theorem mm_nil {W N : Nat} {T L : Nat → Int32} {m : Nat → List Nat} (h : mm_M W N T L m) {s : Nat} (hs : s < N) : mm_M W N T (upd L s 0) (mm_set m s []) := by
  have := mm_cut h hs (Nat.zero_le _)
  rw [List.take_zero] at this
  exact this
theorem mm_tt (K : Nat) (x y : List Nat) : (x.take K ++ y).take K = (x ++ y).take K := by
  by_cases h : x.length ≤ K
  · rw [List.take_of_length_le h]
  · rw [List.take_append_of_le_length (by rw [List.length_take]; omega), List.take_append_of_le_length (by omega), List.take_take, Nat.min_self]
theorem mm_tl {K : Nat} {x : List Nat} (h : x.length ≤ K) : x.take K = x := List.take_of_length_le h
theorem mm_snoc {w : List Nat} {n : Nat} (h : n < w.length) : w.take n ++ [tm_at w n] = w.take (n + 1) := by
  rw [tm_at_lt h]
  exact List.take_append_getElem h
/-! sorts as bits -/
def so_num (S : List Nat) : Nat := S.foldr (fun b n => b + 2 * n) 0
theorem so_num_nil : so_num [] = 0 := rfl
theorem so_num_cons (b : Nat) (S : List Nat) : so_num (b :: S) = b + 2 * so_num S := rfl
def so_B (S : List Nat) : Prop := ∀ x, x ∈ S → x < 2
theorem so_B_cons {b : Nat} {S : List Nat} (h : so_B (b :: S)) : b < 2 ∧ so_B S := ⟨h b List.mem_cons_self, fun x hx => h x (List.mem_cons_of_mem _ hx)⟩
theorem so_B_mk {b : Nat} {S : List Nat} (h : b < 2) (h2 : so_B S) : so_B (b :: S) := by
  intro x hx
  rcases List.mem_cons.mp hx with e | e
  · omega
  · exact h2 x e
theorem so_B_drop {S : List Nat} (h : so_B S) (k : Nat) : so_B (S.drop k) := fun x hx => h x (List.mem_of_mem_drop hx)
theorem so_lt (S : List Nat) : so_B S → so_num S < 2 ^ S.length := by
  induction S with
  | nil => intro _; decide
  | cons b S ih =>
    intro h
    have h2 := so_B_cons h
    have := ih h2.2
    rw [so_num_cons, List.length_cons, Nat.pow_succ]
    omega
theorem so_td (S : List Nat) : ∀ k, k ≤ S.length → so_B S → so_num S % 2 ^ k = so_num (S.take k) ∧ so_num S / 2 ^ k = so_num (S.drop k) := by
  induction S with
  | nil =>
    intro k hk _
    have : k = 0 := by
      rw [List.length_nil] at hk
      omega
    subst this
    exact ⟨rfl, rfl⟩
  | cons b S ih =>
    intro k hk h
    cases k with
    | zero =>
      rw [List.take_zero, List.drop_zero, Nat.pow_zero, Nat.mod_one, Nat.div_one]
      exact ⟨rfl, rfl⟩
    | succ k =>
      have h2 := so_B_cons h
      rw [List.length_cons] at hk
      obtain ⟨h3, h4⟩ := ih k (by omega) h2.2
      rw [List.take_succ_cons, List.drop_succ_cons, so_num_cons, so_num_cons, ← h3, ← h4, Nat.pow_succ, Nat.mul_comm (2 ^ k) 2]
      constructor
      · rw [Nat.mod_mul, show (b + 2 * so_num S) % 2 = b by omega, show (b + 2 * so_num S) / 2 = so_num S by omega]
      · rw [← Nat.div_div_eq_div_mul, show (b + 2 * so_num S) / 2 = so_num S by omega]
theorem so_inj (S : List Nat) : ∀ U, S.length = U.length → so_B S → so_B U → so_num S = so_num U → S = U := by
  induction S with
  | nil =>
    intro U h _ _ _
    exact (List.eq_nil_of_length_eq_zero h.symm).symm
  | cons b S ih =>
    intro U h h1 h2 h3
    cases U with
    | nil => cases h
    | cons c U =>
      have b1 := so_B_cons h1
      have b2 := so_B_cons h2
      rw [so_num_cons, so_num_cons] at h3
      rw [List.length_cons, List.length_cons] at h
      rw [ih U (by omega) b1.2 b2.2 (by omega), show b = c by omega]
/-! reading from the end -/
def tm_bk (g : tm_G) : List Nat → Option (List Nat)
  | [] => some []
  | c :: w => match tm_bk g w with
    | none => none
    | some S => match g c with
      | none => none
      | some p => if S.take p.1.length = p.1 then some (p.2 :: S.drop p.1.length) else none
theorem tm_bk_P {g : tm_G} (w : List Nat) : ∀ S, tm_bk g w = some S ↔ tm_P g S w := by
  induction w with
  | nil =>
    intro S
    constructor
    · intro h
      exact (Option.some.inj h).symm
    · intro h
      have h' : S = [] := h
      rw [h']
      rfl
  | cons c w ih =>
    intro S
    rw [tm_bk]
    constructor
    · intro h
      cases hb : tm_bk g w with
      | none => rw [hb] at h; cases h
      | some S1 =>
        rw [hb] at h
        dsimp only at h
        cases hg : g c with
        | none => rw [hg] at h; cases h
        | some p =>
          rw [hg] at h
          dsimp only at h
          by_cases e : S1.take p.1.length = p.1
          · rw [if_pos e] at h
            refine ⟨p.1, p.2, S1.drop p.1.length, hg, (Option.some.inj h).symm, ?_⟩
            have h5 := (ih S1).mp hb
            rw [← List.take_append_drop p.1.length S1, e] at h5
            exact h5
          · rw [if_neg e] at h
            cases h
    · rintro ⟨a, s, S', hg, rfl, hP⟩
      rw [(ih _).mpr hP, hg]
      dsimp only
      rw [List.take_left' rfl, List.drop_left' rfl, if_pos rfl]
/-- the sort of the one term that the text is -/
def tm_ts (g : tm_G) (w : List Nat) : Option Nat := match tm_bk g w with
  | some [s] => some s
  | _ => none
theorem tm_ts_P {g : tm_G} {w : List Nat} {s : Nat} : tm_ts g w = some s ↔ tm_P g [s] w := by
  rw [← tm_bk_P]
  unfold tm_ts
  constructor
  · intro h
    split at h
    · rename_i s2 e
      rw [e, Option.some.inj h]
    · cases h
  · intro h
    rw [h]
theorem tm_ts_no {g : tm_G} {w : List Nat} (h : ∀ s, ¬ tm_P g [s] w) : tm_ts g w = none := by
  cases e : tm_ts g w with
  | none => rfl
  | some s => exact absurd (tm_ts_P.mp e) (h s)
end
section
/-! 05: the signature; values as texts: pure -/
def tm_sg (n : Nat) (A : Nat → List Nat) (Z : Nat → Nat) : tm_G := fun c =>
  if c = 90 then some ([], 0) else if c = 83 then some ([0], 0) else if c = 78 then some ([], 1) else if c = 67 then some ([0, 1], 1)
  else if 97 ≤ c ∧ c ≤ 104 then some ([], 0) else if 112 ≤ c ∧ c ≤ 119 then some ([], 1)
  else if 70 ≤ c ∧ c < 70 + n then some (A (c - 70), Z (c - 70)) else none
def tm_SG (n : Nat) (A : Nat → List Nat) (Z : Nat → Nat) : Prop := n ≤ 8 ∧ ∀ f, f < n → 1 ≤ (A f).length ∧ (A f).length ≤ 3 ∧ so_B (A f) ∧ Z f < 2
theorem tm_sg_90 {n : Nat} {A : Nat → List Nat} {Z : Nat → Nat} : tm_sg n A Z 90 = some ([], 0) := rfl
theorem tm_sg_83 {n : Nat} {A : Nat → List Nat} {Z : Nat → Nat} : tm_sg n A Z 83 = some ([0], 0) := rfl
theorem tm_sg_78 {n : Nat} {A : Nat → List Nat} {Z : Nat → Nat} : tm_sg n A Z 78 = some ([], 1) := rfl
theorem tm_sg_67 {n : Nat} {A : Nat → List Nat} {Z : Nat → Nat} : tm_sg n A Z 67 = some ([0, 1], 1) := rfl
theorem tm_sg_n {n : Nat} {A : Nat → List Nat} {Z : Nat → Nat} {c : Nat} (h : 97 ≤ c ∧ c ≤ 104) : tm_sg n A Z c = some ([], 0) := by
  unfold tm_sg
  rw [if_neg (by omega), if_neg (by omega), if_neg (by omega), if_neg (by omega), if_pos h]
theorem tm_sg_l {n : Nat} {A : Nat → List Nat} {Z : Nat → Nat} {c : Nat} (h : 112 ≤ c ∧ c ≤ 119) : tm_sg n A Z c = some ([], 1) := by
  unfold tm_sg
  rw [if_neg (by omega), if_neg (by omega), if_neg (by omega), if_neg (by omega), if_neg (by omega), if_pos h]
theorem tm_sg_f {n : Nat} {A : Nat → List Nat} {Z : Nat → Nat} {f : Nat} (h : f < n) (hn : n ≤ 8) : tm_sg n A Z (70 + f) = some (A f, Z f) := by
  unfold tm_sg
  rw [if_neg (by omega), if_neg (by omega), if_neg (by omega), if_neg (by omega), if_neg (by omega), if_neg (by omega), if_pos (by omega), show 70 + f - 70 = f by omega]
theorem tm_sg_o {n : Nat} {A : Nat → List Nat} {Z : Nat → Nat} {c : Nat} (h : c ≠ 90 ∧ c ≠ 83 ∧ c ≠ 78 ∧ c ≠ 67) (h1 : ¬ (97 ≤ c ∧ c ≤ 104)) (h2 : ¬ (112 ≤ c ∧ c ≤ 119)) (h3 : ¬ (70 ≤ c ∧ c < 70 + n)) : tm_sg n A Z c = none := by
  unfold tm_sg
  rw [if_neg h.1, if_neg h.2.1, if_neg h.2.2.1, if_neg h.2.2.2, if_neg h1, if_neg h2, if_neg h3]
/-- the seven cases of a code -/
theorem tm_sg_c (n : Nat) (A : Nat → List Nat) (Z : Nat → Nat) (c : Nat) (hn : n ≤ 8) : (c = 90 ∧ tm_sg n A Z c = some ([], 0)) ∨ (c = 83 ∧ tm_sg n A Z c = some ([0], 0)) ∨ (c = 78 ∧ tm_sg n A Z c = some ([], 1)) ∨ (c = 67 ∧ tm_sg n A Z c = some ([0, 1], 1)) ∨ ((97 ≤ c ∧ c ≤ 104) ∧ tm_sg n A Z c = some ([], 0)) ∨ ((112 ≤ c ∧ c ≤ 119) ∧ tm_sg n A Z c = some ([], 1)) ∨ (∃ f, f < n ∧ c = 70 + f ∧ tm_sg n A Z c = some (A f, Z f)) ∨ (tm_sg n A Z c = none ∧ ¬ (70 ≤ c ∧ c < 70 + n) ∧ tm_vn c = none ∧ tm_kd c = none) := by
  by_cases h1 : c = 90
  · exact Or.inl ⟨h1, by rw [h1]; rfl⟩
  by_cases h2 : c = 83
  · exact Or.inr (Or.inl ⟨h2, by rw [h2]; rfl⟩)
  by_cases h3 : c = 78
  · exact Or.inr (Or.inr (Or.inl ⟨h3, by rw [h3]; rfl⟩))
  by_cases h4 : c = 67
  · exact Or.inr (Or.inr (Or.inr (Or.inl ⟨h4, by rw [h4]; rfl⟩)))
  by_cases h5 : 97 ≤ c ∧ c ≤ 104
  · exact Or.inr (Or.inr (Or.inr (Or.inr (Or.inl ⟨h5, tm_sg_n h5⟩))))
  by_cases h6 : 112 ≤ c ∧ c ≤ 119
  · exact Or.inr (Or.inr (Or.inr (Or.inr (Or.inr (Or.inl ⟨h6, tm_sg_l h6⟩)))))
  by_cases h7 : 70 ≤ c ∧ c < 70 + n
  · refine Or.inr (Or.inr (Or.inr (Or.inr (Or.inr (Or.inr (Or.inl ⟨c - 70, by omega, by omega, ?_⟩))))))
    have := tm_sg_f (n := n) (A := A) (Z := Z) (f := c - 70) (by omega) hn
    rwa [show 70 + (c - 70) = c by omega] at this
  · refine Or.inr (Or.inr (Or.inr (Or.inr (Or.inr (Or.inr (Or.inr ⟨tm_sg_o ⟨h1, h2, h3, h4⟩ h5 h6 h7, h7, ?_, ?_⟩))))))
    · unfold tm_vn
      rw [if_neg h5, if_neg h6]
    · unfold tm_kd
      rw [if_neg (by omega), if_neg (by omega)]
theorem tm_sg_b {n : Nat} {A : Nat → List Nat} {Z : Nat → Nat} (hS : tm_SG n A Z) {c s : Nat} {a : List Nat} (h : tm_sg n A Z c = some (a, s)) : a.length ≤ 3 ∧ so_B a ∧ s < 2 ∧ 67 ≤ c ∧ c ≤ 119 := by
  have key : ∀ (a0 : List Nat) (s0 : Nat), tm_sg n A Z c = some (a0, s0) → a0.length ≤ 3 → so_B a0 → s0 < 2 → 67 ≤ c → c ≤ 119 → a.length ≤ 3 ∧ so_B a ∧ s < 2 ∧ 67 ≤ c ∧ c ≤ 119 := by
    intro a0 s0 e h1 h2 h3 h4 h5
    rw [h] at e
    obtain ⟨rfl, rfl⟩ := Prod.mk.inj (Option.some.inj e)
    exact ⟨h1, h2, h3, h4, h5⟩
  have b0 : so_B [] := fun x hx => nomatch hx
  have b1 : so_B [0] := so_B_mk (by decide) b0
  have b2 : so_B [0, 1] := so_B_mk (by decide) (so_B_mk (by decide) b0)
  rcases tm_sg_c n A Z c hS.1 with ⟨e, q⟩ | ⟨e, q⟩ | ⟨e, q⟩ | ⟨e, q⟩ | ⟨e, q⟩ | ⟨e, q⟩ | ⟨f, hf, e, q⟩ | ⟨q, _⟩
  · exact key _ _ q (by decide) b0 (by decide) (by omega) (by omega)
  · exact key _ _ q (by decide) b1 (by decide) (by omega) (by omega)
  · exact key _ _ q (by decide) b0 (by decide) (by omega) (by omega)
  · exact key _ _ q (by decide) b2 (by decide) (by omega) (by omega)
  · exact key _ _ q (by decide) b0 (by decide) (by omega) (by omega)
  · exact key _ _ q (by decide) b0 (by decide) (by omega) (by omega)
  · have hn := hS.1
    obtain ⟨_, h1, h2, h3⟩ := hS.2 f hf
    exact key _ _ q h1 h2 h3 (by omega) (by omega)
  · rw [h] at q
    cases q
theorem tm_sg_V {n : Nat} {A : Nat → List Nat} {Z : Nat → Nat} {c v : Nat} (h : tm_vn c = some v) : tm_sg n A Z c = some ([], if v < 8 then 0 else 1) := by
  obtain ⟨e, hv⟩ := tm_vn_ch h
  subst e
  unfold tm_vc
  by_cases h8 : v < 8
  · rw [if_pos h8, if_pos h8]
    exact tm_sg_n (by omega)
  · rw [if_neg h8, if_neg h8]
    exact tm_sg_l (by omega)
theorem tm_sg_GS {n : Nat} {A : Nat → List Nat} {Z : Nat → Nat} (hS : tm_SG n A Z) : tm_GS (tm_sg n A Z) := by
  refine ⟨fun c v h => ⟨_, tm_sg_V h⟩, ?_, ?_⟩
  · intro c d k a a' s hc hd h1 h2
    rcases tm_kd_c hc with ⟨k0, e | e⟩ | ⟨k0, e | e⟩ <;> rcases tm_kd_c hd with ⟨k1, e' | e'⟩ | ⟨k1, e' | e'⟩ <;> subst e <;> subst e' <;> first
      | rfl
      | (exfalso; omega)
      | (exfalso
         first
           | rw [tm_sg_90] at h1
           | rw [tm_sg_78] at h1
           | rw [tm_sg_83] at h1
           | rw [tm_sg_67] at h1
         first
           | rw [tm_sg_90] at h2
           | rw [tm_sg_78] at h2
           | rw [tm_sg_83] at h2
           | rw [tm_sg_67] at h2
         have e1 := (Prod.mk.inj (Option.some.inj h1)).2
         have e2 := (Prod.mk.inj (Option.some.inj h2)).2
         omega)
  · intro c a s hf h
    have hn := hS.1
    rcases tm_sg_c n A Z c hS.1 with ⟨e, q⟩ | ⟨e, q⟩ | ⟨e, q⟩ | ⟨e, q⟩ | ⟨e, q⟩ | ⟨e, q⟩ | ⟨f, hf, e, q⟩ | ⟨q, _⟩
    · omega
    · omega
    · omega
    · omega
    · omega
    · omega
    · rw [h] at q
      obtain ⟨rfl, _⟩ := Prod.mk.inj (Option.some.inj q)
      intro z
      have := (hS.2 f hf).1
      rw [z] at this
      exact absurd this (by decide)
    · rw [h] at q
      cases q
theorem tm_sg_mono {n n' : Nat} {A A' : Nat → List Nat} {Z Z' : Nat → Nat} (hn : n ≤ n') (hn' : n' ≤ 8) (hA : ∀ f, f < n → A' f = A f ∧ Z' f = Z f) : ∀ c p, tm_sg n A Z c = some p → tm_sg n' A' Z' c = some p := by
  intro c p h
  rcases tm_sg_c n A Z c (by omega) with ⟨e, q⟩ | ⟨e, q⟩ | ⟨e, q⟩ | ⟨e, q⟩ | ⟨e, q⟩ | ⟨e, q⟩ | ⟨f, hf, e, q⟩ | ⟨q, _⟩ <;> rw [h] at q
  · rw [q, e]; rfl
  · rw [q, e]; rfl
  · rw [q, e]; rfl
  · rw [q, e]; rfl
  · rw [q]; exact tm_sg_n e
  · rw [q]; exact tm_sg_l e
  · rw [q, e, tm_sg_f (by omega) hn', (hA f hf).1, (hA f hf).2]
  · cases q
/-! values -/
def tm_nu (k : Nat) : List Nat := List.replicate k 83 ++ [90]
def tm_el (e : Nat → Nat) : Nat → List Nat
  | 0 => []
  | k + 1 => tm_el e k ++ (67 :: tm_nu (e k))
def tm_vl (val : Nat → Nat) (el : Nat → Nat → Nat) (v : Nat) : List Nat := if v < 8 then tm_nu (val v) else tm_el (el v) (val v) ++ [78]
theorem tm_nu_P {n : Nat} {A : Nat → List Nat} {Z : Nat → Nat} (k : Nat) : tm_P (tm_sg n A Z) [0] (tm_nu k) := by
  induction k with
  | zero => exact ⟨[], 0, [], rfl, rfl, rfl⟩
  | succ k ih => exact ⟨[0], 0, [], rfl, rfl, ih⟩
theorem tm_el_P {n : Nat} {A : Nat → List Nat} {Z : Nat → Nat} (e : Nat → Nat) (k : Nat) : ∀ u, tm_P (tm_sg n A Z) [1] u → tm_P (tm_sg n A Z) [1] (tm_el e k ++ u) := by
  induction k with
  | zero => exact fun u h => h
  | succ k ih =>
    intro u h
    show tm_P (tm_sg n A Z) [1] ((tm_el e k ++ (67 :: tm_nu (e k))) ++ u)
    rw [List.append_assoc]
    apply ih
    exact ⟨[0, 1], 1, [], rfl, rfl, tm_P_app h _ [0] (tm_nu_P (e k))⟩
theorem tm_vl_P {n : Nat} {A : Nat → List Nat} {Z : Nat → Nat} (val : Nat → Nat) (el : Nat → Nat → Nat) (v : Nat) : tm_P (tm_sg n A Z) [if v < 8 then 0 else 1] (tm_vl val el v) := by
  unfold tm_vl
  by_cases h : v < 8
  · rw [if_pos h, if_pos h]
    exact tm_nu_P _
  · rw [if_neg h, if_neg h]
    exact tm_el_P _ _ _ ⟨[], 1, [], rfl, rfl, rfl⟩
theorem tm_nu_mem {k c : Nat} (h : c ∈ tm_nu k) : c = 83 ∨ c = 90 := by
  rcases List.mem_append.mp h with h | h
  · exact Or.inl (List.eq_of_mem_replicate h)
  · exact Or.inr (List.mem_singleton.mp h)
theorem tm_el_mem {e : Nat → Nat} {c : Nat} (k : Nat) : c ∈ tm_el e k → c = 83 ∨ c = 90 ∨ c = 67 := by
  induction k with
  | zero => exact fun h => nomatch h
  | succ k ih =>
    intro h
    rcases List.mem_append.mp h with h | h
    · exact ih h
    · rcases List.mem_cons.mp h with h | h
      · exact Or.inr (Or.inr h)
      · rcases tm_nu_mem h with h | h
        · exact Or.inl h
        · exact Or.inr (Or.inl h)
theorem tm_vl_mem {val : Nat → Nat} {el : Nat → Nat → Nat} {v c : Nat} (h : c ∈ tm_vl val el v) : c = 83 ∨ c = 90 ∨ c = 67 ∨ c = 78 := by
  unfold tm_vl at h
  by_cases h8 : v < 8
  · rw [if_pos h8] at h
    rcases tm_nu_mem h with h | h <;> omega
  · rw [if_neg h8] at h
    rcases List.mem_append.mp h with h | h
    · rcases tm_el_mem _ h with h | h | h <;> omega
    · have := List.mem_singleton.mp h
      omega
theorem tm_vl_pos (val : Nat → Nat) (el : Nat → Nat → Nat) (v : Nat) : 1 ≤ (tm_vl val el v).length := by
  have h := tm_vl_P (n := 0) (A := fun _ => []) (Z := fun _ => 0) val el v
  exact tm_P_ne h
/-- one symbol's text, the variables below k replaced -/
def tm_g1 (val : Nat → Nat) (el : Nat → Nat → Nat) (k c : Nat) : List Nat := match tm_vn c with
  | some v => if v < k then tm_vl val el v else [c]
  | none => [c]
def tm_gk (val : Nat → Nat) (el : Nat → Nat → Nat) (k : Nat) (w : List Nat) : List Nat := w.flatMap (tm_g1 val el k)
theorem tm_g1_n {val : Nat → Nat} {el : Nat → Nat → Nat} {k c : Nat} (h : tm_vn c = none) : tm_g1 val el k c = [c] := by
  unfold tm_g1
  rw [h]
theorem tm_g1_v {val : Nat → Nat} {el : Nat → Nat → Nat} {k c v : Nat} (h : tm_vn c = some v) (hk : v < k) : tm_g1 val el k c = tm_vl val el v := by
  unfold tm_g1
  rw [h]
  exact if_pos hk
theorem tm_g1_o {val : Nat → Nat} {el : Nat → Nat → Nat} {k c v : Nat} (h : tm_vn c = some v) (hk : ¬ v < k) : tm_g1 val el k c = [c] := by
  unfold tm_g1
  rw [h]
  exact if_neg hk
theorem tm_gk_0 (val : Nat → Nat) (el : Nat → Nat → Nat) (w : List Nat) : tm_gk val el 0 w = w := by
  induction w with
  | nil => rfl
  | cons c w ih =>
    show tm_g1 val el 0 c ++ tm_gk val el 0 w = c :: w
    rw [ih]
    cases h : tm_vn c with
    | none => rw [tm_g1_n h]; rfl
    | some v => rw [tm_g1_o h (Nat.not_lt_zero _)]; rfl
theorem tm_fm_id {f : Nat → List Nat} (w : List Nat) : (∀ c, c ∈ w → f c = [c]) → w.flatMap f = w := by
  induction w with
  | nil => exact fun _ => rfl
  | cons c w ih =>
    intro h
    rw [List.flatMap_cons, h c List.mem_cons_self, ih (fun d hd => h d (List.mem_cons_of_mem _ hd))]
    rfl
theorem tm_gk_s (val : Nat → Nat) (el : Nat → Nat → Nat) {k : Nat} (hk : k < 16) (w : List Nat) : (tm_gk val el k w).flatMap (fun c => if c = tm_vc k then tm_vl val el k else [c]) = tm_gk val el (k + 1) w := by
  induction w with
  | nil => rfl
  | cons c w ih =>
    show (tm_g1 val el k c ++ tm_gk val el k w).flatMap _ = tm_g1 val el (k + 1) c ++ tm_gk val el (k + 1) w
    rw [List.flatMap_append, ih]
    congr 1
    have hvk := tm_vn_vc hk
    cases h : tm_vn c with
    | none =>
      rw [tm_g1_n h, tm_g1_n h]
      apply tm_fm_id
      intro d hd
      rw [List.mem_singleton.mp hd, if_neg]
      intro e
      rw [e, hvk] at h
      cases h
    | some v =>
      by_cases h1 : v < k
      · rw [tm_g1_v h h1, tm_g1_v h (by omega)]
        apply tm_fm_id
        intro d hd
        have hm := tm_vl_mem hd
        rw [if_neg]
        unfold tm_vc
        split <;> omega
      · rw [tm_g1_o h h1]
        by_cases h2 : v = k
        · subst h2
          rw [tm_g1_v h (by omega), List.flatMap_singleton, if_pos (tm_vn_ch h).1]
        · rw [tm_g1_o h (by omega), List.flatMap_singleton, if_neg]
          intro e
          rw [e, hvk] at h
          exact h2 (Option.some.inj h).symm
theorem tm_fm_le {f : Nat → List Nat} (hf : ∀ c, 1 ≤ (f c).length) (w : List Nat) : w.length ≤ (w.flatMap f).length := by
  induction w with
  | nil => exact Nat.zero_le _
  | cons c w ih =>
    rw [List.flatMap_cons, List.length_append, List.length_cons]
    have := hf c
    omega
theorem tm_gk_le (val : Nat → Nat) (el : Nat → Nat → Nat) {k : Nat} (hk : k < 16) (w : List Nat) : (tm_gk val el k w).length ≤ (tm_gk val el (k + 1) w).length := by
  rw [← tm_gk_s val el hk w]
  apply tm_fm_le
  intro c
  by_cases h : c = tm_vc k
  · rw [if_pos h]
    exact tm_vl_pos _ _ _
  · rw [if_neg h]
    exact Nat.le_refl _
theorem tm_gk_mem {val : Nat → Nat} {el : Nat → Nat → Nat} {k c : Nat} (w : List Nat) : c ∈ tm_gk val el k w → c ∈ w ∨ c = 83 ∨ c = 90 ∨ c = 67 ∨ c = 78 := by
  induction w with
  | nil => exact fun h => Or.inl h
  | cons d w ih =>
    intro h
    have h' : c ∈ tm_g1 val el k d ++ tm_gk val el k w := h
    rcases List.mem_append.mp h' with h1 | h1
    · cases hv : tm_vn d with
      | none =>
        rw [tm_g1_n hv] at h1
        rw [List.mem_singleton.mp h1]
        exact Or.inl List.mem_cons_self
      | some v =>
        by_cases hk : v < k
        · rw [tm_g1_v hv hk] at h1
          exact Or.inr (tm_vl_mem h1)
        · rw [tm_g1_o hv hk] at h1
          rw [List.mem_singleton.mp h1]
          exact Or.inl List.mem_cons_self
    · rcases ih h1 with h2 | h2
      · exact Or.inl (List.mem_cons_of_mem _ h2)
      · exact Or.inr h2
theorem tm_gk_P {n : Nat} {A : Nat → List Nat} {Z : Nat → Nat} {val : Nat → Nat} {el : Nat → Nat → Nat} {k : Nat} (w : List Nat) : ∀ S, tm_P (tm_sg n A Z) S w → tm_P (tm_sg n A Z) S (tm_gk val el k w) := by
  induction w with
  | nil => exact fun S h => h
  | cons c w ih =>
    intro S h
    obtain ⟨a, s, S', hg, rfl, hP⟩ := h
    have hi := ih _ hP
    show tm_P (tm_sg n A Z) (s :: S') (tm_g1 val el k c ++ tm_gk val el k w)
    have hc : ∀ (h : tm_g1 val el k c = [c]), tm_P (tm_sg n A Z) (s :: S') (tm_g1 val el k c ++ tm_gk val el k w) := by
      intro h
      rw [h]
      exact ⟨a, s, S', hg, rfl, hi⟩
    cases hv : tm_vn c with
    | none => exact hc (tm_g1_n hv)
    | some v =>
      by_cases hk : v < k
      · rw [tm_g1_v hv hk]
        rw [tm_sg_V hv] at hg
        obtain ⟨rfl, rfl⟩ := Prod.mk.inj (Option.some.inj hg)
        exact tm_P_app hi _ [if v < 8 then 0 else 1] (tm_vl_P val el v)
      · exact hc (tm_g1_o hv hk)
end
section
/-! 06: sets of variables as bits; ints that are small naturals -/
theorem vz_or (a b : Nat) : nI a ||| nI b = nI (a ||| b) := by
  apply Int32.toBitVec_inj.1
  show BitVec.ofNat 32 a ||| BitVec.ofNat 32 b = BitVec.ofNat 32 (a ||| b)
  apply BitVec.eq_of_getLsbD_eq
  intro i hi
  simp [hi]
theorem vz_cnt : ∀ v, v < 32 → ((nI v &&& 31).toBitVec.smod 32).toNat = v := by decide +kernel
theorem vz_one {v : Nat} (h : v < 16) : (1 : Int32) <<< (nI v &&& 31) = nI (2 ^ v) := by
  have := pk_shlN (n := 1) (nI v &&& 31) v (vz_cnt v (by omega)) (by
    rw [Nat.one_mul]
    exact Nat.pow_lt_pow_right (by decide) (by omega))
  rw [Nat.one_mul] at this
  exact this
theorem vz_bit {k v : Nat} (hk : k < 65536) (hv : v < 16) : (nI k >>> (nI v &&& 31)) &&& 1 = nI (k / 2 ^ v % 2) := by
  rw [pk_shrN (by omega) (nI v &&& 31) v (vz_cnt v (by omega))]
  have h2 : k / 2 ^ v ≤ k := Nat.div_le_self _ _
  exact pk_andN (by omega) 1 rfl
theorem vz_tb (k v : Nat) : k / 2 ^ v % 2 = if k.testBit v = true then 1 else 0 := by
  rw [Nat.testBit_eq_decide_div_mod_eq]
  by_cases h : k / 2 ^ v % 2 = 1
  · rw [if_pos (decide_eq_true h), h]
  · rw [if_neg (by rw [decide_eq_true_eq]; exact h)]
    omega
/-- k is the set of the variables that p holds of -/
def vz_S (k : Nat) (p : Nat → Prop) : Prop := k < 65536 ∧ ∀ v, v < 16 → (k.testBit v = true ↔ p v)
theorem vz_S_0 : vz_S 0 (fun _ => False) := ⟨by decide, fun v _ => by rw [Nat.zero_testBit]; exact ⟨fun h => (nomatch h), fun h => h.elim⟩⟩
theorem vz_S_or {a b : Nat} {p q : Nat → Prop} (ha : vz_S a p) (hb : vz_S b q) : vz_S (a ||| b) (fun v => p v ∨ q v) := by
  refine ⟨Nat.or_lt_two_pow (n := 16) ha.1 hb.1, fun v hv => ?_⟩
  rw [Nat.testBit_or, Bool.or_eq_true, ha.2 v hv, hb.2 v hv]
theorem vz_S_one {u : Nat} (h : u < 16) : vz_S (2 ^ u) (fun v => v = u) := by
  refine ⟨(Nat.pow_lt_pow_right (by decide) h : 2 ^ u < 2 ^ 16), fun v hv => ?_⟩
  rw [Nat.testBit_two_pow, decide_eq_true_eq]
  exact ⟨fun e => e.symm, fun e => e.symm⟩
theorem vz_S_iff {a : Nat} {p q : Nat → Prop} (h : ∀ v, v < 16 → (p v ↔ q v)) (ha : vz_S a p) : vz_S a q := ⟨ha.1, fun v hv => (ha.2 v hv).trans (h v hv)⟩
theorem vz_S_bit {k v : Nat} {p : Nat → Prop} (h : vz_S k p) (hv : v < 16) : ((nI k >>> (nI v &&& 31)) &&& 1 = 0 ↔ ¬ p v) ∧ ((nI k >>> (nI v &&& 31)) &&& 1 = 1 ↔ p v) := by
  rw [vz_bit h.1 hv, vz_tb]
  by_cases hp : k.testBit v = true
  · rw [if_pos hp]
    have := (h.2 v hv).mp hp
    exact ⟨⟨fun z => absurd z (by decide), fun z => absurd this z⟩, ⟨fun _ => this, fun _ => rfl⟩⟩
  · rw [if_neg hp]
    have : ¬ p v := fun z => hp ((h.2 v hv).mpr z)
    exact ⟨⟨fun _ => this, fun _ => rfl⟩, ⟨fun z => absurd z (by decide), fun z => absurd z this⟩⟩
theorem vz_not (b : Nat) (hb : b < 65536) (i : Nat) (hi : i < 32) : (nI b ^^^ (-1)).toBitVec.getLsbD i = !(b.testBit i) := by
  show (BitVec.ofNat 32 b ^^^ (-1#32)).getLsbD i = _
  rw [BitVec.getLsbD_xor, BitVec.getLsbD_ofNat, show (-1#32 : BitVec 32) = BitVec.allOnes 32 from rfl, BitVec.getLsbD_allOnes]
  simp [hi]
theorem vz_diff {a b : Nat} {p q : Nat → Prop} (ha : vz_S a p) (hb : vz_S b q) : nI a &&& (nI b ^^^ (-1)) = 0 ↔ ∀ v, v < 16 → p v → q v := by
  constructor
  · intro h v hv hp
    have h1 : (nI a &&& (nI b ^^^ (-1))).toBitVec.getLsbD v = false := by
      rw [h]
      exact BitVec.getLsbD_zero
    rw [Int32.toBitVec_and, BitVec.getLsbD_and, vz_not b hb.1 v (by omega)] at h1
    have h2 : (nI a).toBitVec.getLsbD v = true := by
      show (BitVec.ofNat 32 a).getLsbD v = true
      rw [BitVec.getLsbD_ofNat, (ha.2 v hv).mpr hp]
      simp
      omega
    rw [h2, Bool.true_and] at h1
    apply (hb.2 v hv).mp
    cases e : b.testBit v with
    | true => rfl
    | false => rw [e] at h1; cases h1
  · intro h
    apply Int32.toBitVec_inj.1
    apply BitVec.eq_of_getLsbD_eq
    intro i hi
    rw [Int32.toBitVec_and, BitVec.getLsbD_and, vz_not b hb.1 i hi]
    show ((BitVec.ofNat 32 a).getLsbD i && !b.testBit i) = (0#32).getLsbD i
    rw [BitVec.getLsbD_ofNat, BitVec.getLsbD_zero]
    by_cases hi16 : i < 16
    · cases e : a.testBit i with
      | false => simp
      | true =>
        rw [(hb.2 i hi16).mpr (h i hi16 ((ha.2 i hi16).mp e))]
        simp
    · rw [Nat.testBit_lt_two_pow (Nat.lt_of_lt_of_le ha.1 (Nat.pow_le_pow_right (n := 2) (i := 16) (by decide) (by omega)))]
      simp
end
section
/-! 07: what every state keeps of its texts: pure -/
theorem iv_cp_ext {R R' : Nat → List Nat} {c : Nat} (h : ∀ i, i < 32 → R i ≠ [] → R' i ≠ []) (hc : tm_fn c) (hp : tm_cp R c) : tm_cp R' c := ⟨h _ (by omega) hp.1, h _ (by omega) hp.2⟩
theorem iv_FC_ext {R R' : Nat → List Nat} {w : List Nat} (h : ∀ i, i < 32 → R i ≠ [] → R' i ≠ []) (hF : tm_FC R w) : tm_FC R' w := fun c hc hf => iv_cp_ext h hf (hF c hc hf)
theorem iv_eqne {R R' : Nat → List Nat} (h : ∀ i, i < 32 → R' i = R i) : ∀ i, i < 32 → R i ≠ [] → R' i ≠ [] := fun i hi hn => by rw [h i hi]; exact hn
def iv_E (g : tm_G) (R : Nat → List Nat) (u w : List Nat) : Prop := ∃ s, tm_P g [s] u ∧ tm_P g [s] w ∧ tm_FC R u ∧ tm_FC R w ∧ u.length ≤ 48 ∧ w.length ≤ 48
theorem iv_E_mono {g g' : tm_G} {R R' : Nat → List Nat} {u w : List Nat} (hg : ∀ c p, g c = some p → g' c = some p) (hR : ∀ i, i < 32 → R i ≠ [] → R' i ≠ []) (h : iv_E g R u w) : iv_E g' R' u w := by
  obtain ⟨s, h1, h2, h3, h4, h5, h6⟩ := h
  exact ⟨s, tm_P_mono hg _ _ h1, tm_P_mono hg _ _ h2, iv_FC_ext hR h3, iv_FC_ext hR h4, h5, h6⟩
theorem iv_E_ext {g : tm_G} {R R' : Nat → List Nat} {u w : List Nat} (hR : ∀ i, i < 32 → R' i = R i) (h : iv_E g R u w) : iv_E g R' u w := iv_E_mono (fun _ _ h => h) (iv_eqne hR) h
theorem iv_RW_mono {g g' : tm_G} {R R' : Nat → List Nat} {f k : Nat} (hf : f < 8) (hk : k < 2) (hg : ∀ c p, g c = some p → g' c = some p) (hR : ∀ i, i < 32 → R i ≠ [] → R' i ≠ []) (e1 : R' (4 * f + 2 * k) = R (4 * f + 2 * k)) (e2 : R' (4 * f + 2 * k + 1) = R (4 * f + 2 * k + 1)) (h : tm_RW g R f k) : tm_RW g' R' f k := by
  obtain ⟨K, vs, s, h1, h2, h3, h4, h5, h6, h7⟩ := h
  refine ⟨K, vs, s, ?_, h2, h3, h4, ?_, ?_, ?_⟩
  · rw [e1]; exact h1
  · rw [e1]; exact tm_P_mono hg _ _ h5
  · rw [e2]; exact tm_P_mono hg _ _ h6
  · rw [e2]
    intro c hc hf2
    rcases h7 c hc hf2 with h | h
    · exact Or.inl h
    · exact Or.inr (iv_cp_ext hR hf2 h)
theorem iv_RU_mono {g g' : tm_G} {R R' : Nat → List Nat} (hg : ∀ c p, g c = some p → g' c = some p) (hR : ∀ i, i < 32 → R' i = R i) (h : tm_RU g R) : tm_RU g' R' := by
  intro f k hf hk hne
  rw [hR _ (by omega)] at hne
  exact iv_RW_mono hf hk hg (iv_eqne hR) (hR _ (by omega)) (hR _ (by omega)) (h f k hf hk hne)
/-- the texts of a state: buffer, formulas, rules, goals -/
def iv_R (m : Nat → List Nat) : Nat → List Nat := fun i => m (17 + i)
def iv_Wf (n : Nat) (A : Nat → List Nat) (Z : Nat → Nat) (q : Nat) (m : Nat → List Nat) : Prop :=
  (∀ k, k < q → iv_E (tm_sg n A Z) (iv_R m) (m (1 + 2 * k)) (m (1 + 2 * k + 1))) ∧ (∀ i, 2 * q ≤ i → i < 16 → m (1 + i) = [])
def iv_Wr (n : Nat) (A : Nat → List Nat) (Z : Nat → Nat) (m : Nat → List Nat) : Prop :=
  tm_RU (tm_sg n A Z) (iv_R m) ∧ (∀ f k, f < 8 → k < 2 → (iv_R m (4 * f + 2 * k) ≠ [] → f < n) ∧ (iv_R m (4 * f + 2 * k) = [] → iv_R m (4 * f + 2 * k + 1) = [])) ∧ (∀ i, i < 32 → (iv_R m i).length ≤ 48)
def iv_Wg (n : Nat) (A : Nat → List Nat) (Z : Nat → Nat) (ng : Nat) (hy : Nat → Bool) (m : Nat → List Nat) : Prop :=
  ∀ j, j < ng → iv_E (tm_sg n A Z) (iv_R m) (m (49 + 4 * j)) (m (49 + 4 * j + 1)) ∧ (hy j = true → iv_E (tm_sg n A Z) (iv_R m) (m (49 + 4 * j + 2)) (m (49 + 4 * j + 3))) ∧ (hy j = false → m (49 + 4 * j + 2) = [] ∧ m (49 + 4 * j + 3) = [])
def iv_W (n : Nat) (A : Nat → List Nat) (Z : Nat → Nat) (q ng : Nat) (hy : Nat → Bool) (m : Nat → List Nat) : Prop :=
  tm_SG n A Z ∧ q ≤ 8 ∧ ng ≤ 8 ∧ (m 0).length ≤ 48 ∧ iv_Wf n A Z q m ∧ iv_Wr n A Z m ∧ iv_Wg n A Z ng hy m
theorem iv_Wf_ext {n : Nat} {A : Nat → List Nat} {Z : Nat → Nat} {q : Nat} {m m' : Nat → List Nat} (hq : q ≤ 8) (h : ∀ s, 1 ≤ s → s < 49 → m' s = m s) (hW : iv_Wf n A Z q m) : iv_Wf n A Z q m' := by
  refine ⟨fun k hk => ?_, fun i h1 h2 => ?_⟩
  · rw [h _ (by omega) (by omega), h _ (by omega) (by omega)]
    exact iv_E_ext (fun i hi => h _ (by omega) (by omega)) (hW.1 k hk)
  · rw [h _ (by omega) (by omega)]
    exact hW.2 i h1 h2
theorem iv_Wr_ext {n : Nat} {A : Nat → List Nat} {Z : Nat → Nat} {m m' : Nat → List Nat} (h : ∀ s, 17 ≤ s → s < 49 → m' s = m s) (hW : iv_Wr n A Z m) : iv_Wr n A Z m' := by
  have hR : ∀ i, i < 32 → iv_R m' i = iv_R m i := fun i hi => h _ (by omega) (by omega)
  refine ⟨iv_RU_mono (fun _ _ h => h) hR hW.1, fun f k hf hk => ?_, fun i hi => ?_⟩
  · rw [hR _ (by omega), hR _ (by omega)]
    exact hW.2.1 f k hf hk
  · rw [hR i hi]
    exact hW.2.2 i hi
theorem iv_Wg_ext {n : Nat} {A : Nat → List Nat} {Z : Nat → Nat} {ng : Nat} {hy : Nat → Bool} {m m' : Nat → List Nat} (hg : ng ≤ 8) (h : ∀ s, 17 ≤ s → s < 81 → m' s = m s) (hW : iv_Wg n A Z ng hy m) : iv_Wg n A Z ng hy m' := by
  intro j hj
  have hR : ∀ i, i < 32 → iv_R m' i = iv_R m i := fun i hi => h _ (by omega) (by omega)
  obtain ⟨h1, h2, h3⟩ := hW j hj
  rw [h _ (by omega) (by omega), h _ (by omega) (by omega), h _ (by omega) (by omega), h _ (by omega) (by omega)]
  exact ⟨iv_E_ext hR h1, fun z => iv_E_ext hR (h2 z), h3⟩
theorem iv_W_ext {n : Nat} {A : Nat → List Nat} {Z : Nat → Nat} {q ng : Nat} {hy : Nat → Bool} {m m' : Nat → List Nat} (h : ∀ s, 1 ≤ s → s < 81 → m' s = m s) (h0 : (m' 0).length ≤ 48) (hW : iv_W n A Z q ng hy m) : iv_W n A Z q ng hy m' := by
  obtain ⟨h1, h2, h3, _, h5, h6, h7⟩ := hW
  exact ⟨h1, h2, h3, h0, iv_Wf_ext h2 (fun s a b => h s a (by omega)) h5, iv_Wr_ext (fun s a b => h s (by omega) (by omega)) h6, iv_Wg_ext h3 (fun s a b => h s (by omega) b) h7⟩
/-- new goals over the same formulas and rules -/
theorem iv_W_goals {n : Nat} {A : Nat → List Nat} {Z : Nat → Nat} {q ng ng' : Nat} {hy hy' : Nat → Bool} {m m' : Nat → List Nat} (h : ∀ s, 1 ≤ s → s < 49 → m' s = m s) (h0 : (m' 0).length ≤ 48) (hg : ng' ≤ 8) (hW : iv_W n A Z q ng hy m)
    (hn : ∀ j, j < ng' → iv_E (tm_sg n A Z) (iv_R m) (m' (49 + 4 * j)) (m' (49 + 4 * j + 1)) ∧ (hy' j = true → iv_E (tm_sg n A Z) (iv_R m) (m' (49 + 4 * j + 2)) (m' (49 + 4 * j + 3))) ∧ (hy' j = false → m' (49 + 4 * j + 2) = [] ∧ m' (49 + 4 * j + 3) = [])) : iv_W n A Z q ng' hy' m' := by
  obtain ⟨h1, h2, _, _, h5, h6, h7⟩ := hW
  have hR : ∀ i, i < 32 → iv_R m' i = iv_R m i := fun i hi => h _ (by omega) (by omega)
  refine ⟨h1, h2, hg, h0, iv_Wf_ext h2 h h5, iv_Wr_ext (fun s a b => h s (by omega) b) h6, fun j hj => ?_⟩
  obtain ⟨a1, a2, a3⟩ := hn j hj
  exact ⟨iv_E_ext hR a1, fun z => iv_E_ext hR (a2 z), a3⟩
/-- one more function -/
theorem iv_W_decl {n : Nat} {A A' : Nat → List Nat} {Z Z' : Nat → Nat} {q ng : Nat} {hy : Nat → Bool} {m : Nat → List Nat} (hS : tm_SG (n + 1) A' Z') (hA : ∀ f, f < n → A' f = A f ∧ Z' f = Z f) (hW : iv_W n A Z q ng hy m) : iv_W (n + 1) A' Z' q ng hy m := by
  have hg := tm_sg_mono (Nat.le_succ n) hS.1 hA
  obtain ⟨h1, h2, h3, h4, h5, h6, h7⟩ := hW
  refine ⟨hS, h2, h3, h4, ⟨fun k hk => iv_E_mono hg (fun _ _ h => h) (h5.1 k hk), h5.2⟩, ⟨iv_RU_mono hg (fun _ _ => rfl) h6.1, fun f k hf hk => ⟨fun z => Nat.lt_succ_of_lt ((h6.2.1 f k hf hk).1 z), (h6.2.1 f k hf hk).2⟩, h6.2.2⟩, fun j hj => ?_⟩
  obtain ⟨a1, a2, a3⟩ := h7 j hj
  exact ⟨iv_E_mono hg (fun _ _ h => h) a1, fun z => iv_E_mono hg (fun _ _ h => h) (a2 z), a3⟩
/-- one more rule -/
theorem iv_W_rule {n : Nat} {A : Nat → List Nat} {Z : Nat → Nat} {q ng : Nat} {hy : Nat → Bool} {m m' : Nat → List Nat} {f k : Nat} (hf : f < 8) (hk : k < 2) (hfn : f < n) (hno : m (17 + (4 * f + 2 * k)) = [])
    (h : ∀ s, 1 ≤ s → s < 81 → s ≠ 17 + (4 * f + 2 * k) → s ≠ 17 + (4 * f + 2 * k + 1) → m' s = m s) (h0 : (m' 0).length ≤ 48)
    (hl : (m' (17 + (4 * f + 2 * k))).length ≤ 48) (hr : (m' (17 + (4 * f + 2 * k + 1))).length ≤ 48)
    (hW : iv_W n A Z q ng hy m) (hN : tm_RW (tm_sg n A Z) (iv_R m') f k) : iv_W n A Z q ng hy m' := by
  obtain ⟨h1, h2, h3, _, h5, h6, h7⟩ := hW
  have hR : ∀ i, i < 32 → i ≠ 4 * f + 2 * k → i ≠ 4 * f + 2 * k + 1 → iv_R m' i = iv_R m i := fun i hi n1 n2 => h _ (by omega) (by omega) (by omega) (by omega)
  have hno2 : iv_R m (4 * f + 2 * k + 1) = [] := (h6.2.1 f k hf hk).2 hno
  have hne : ∀ i, i < 32 → iv_R m i ≠ [] → iv_R m' i ≠ [] := by
    intro i hi hn
    by_cases e1 : i = 4 * f + 2 * k
    · subst e1
      exact absurd hno hn
    · by_cases e2 : i = 4 * f + 2 * k + 1
      · subst e2
        exact absurd hno2 hn
      · rw [hR i hi e1 e2]
        exact hn
  have hid : ∀ c p, tm_sg n A Z c = some p → tm_sg n A Z c = some p := fun _ _ h => h
  refine ⟨h1, h2, h3, h0, ⟨fun j hj => ?_, fun i a b => ?_⟩, ⟨?_, ?_, ?_⟩, fun j hj => ?_⟩
  · rw [h _ (by omega) (by omega) (by omega) (by omega), h _ (by omega) (by omega) (by omega) (by omega)]
    exact iv_E_mono hid hne (h5.1 j hj)
  · rw [h _ (by omega) (by omega) (by omega) (by omega)]
    exact h5.2 i a b
  · intro f2 k2 hf2 hk2 hn2
    by_cases e : f2 = f ∧ k2 = k
    · rw [e.1, e.2]
      exact hN
    · have e1 : 4 * f2 + 2 * k2 ≠ 4 * f + 2 * k := by omega
      have e2 : 4 * f2 + 2 * k2 ≠ 4 * f + 2 * k + 1 := by omega
      have e3 : 4 * f2 + 2 * k2 + 1 ≠ 4 * f + 2 * k := by omega
      have e4 : 4 * f2 + 2 * k2 + 1 ≠ 4 * f + 2 * k + 1 := by omega
      have r1 := hR (4 * f2 + 2 * k2) (by omega) e1 e2
      have r2 := hR (4 * f2 + 2 * k2 + 1) (by omega) e3 e4
      rw [r1] at hn2
      exact iv_RW_mono hf2 hk2 hid hne r1 r2 (h6.1 f2 k2 hf2 hk2 hn2)
  · intro f2 k2 hf2 hk2
    by_cases e : f2 = f ∧ k2 = k
    · rw [e.1, e.2]
      refine ⟨fun _ => hfn, fun z => ?_⟩
      obtain ⟨K, vs, s, q1, _⟩ := hN
      rw [z] at q1
      cases q1
    · have e1 : 4 * f2 + 2 * k2 ≠ 4 * f + 2 * k := by omega
      have e2 : 4 * f2 + 2 * k2 ≠ 4 * f + 2 * k + 1 := by omega
      have e3 : 4 * f2 + 2 * k2 + 1 ≠ 4 * f + 2 * k := by omega
      have e4 : 4 * f2 + 2 * k2 + 1 ≠ 4 * f + 2 * k + 1 := by omega
      rw [hR (4 * f2 + 2 * k2) (by omega) e1 e2, hR (4 * f2 + 2 * k2 + 1) (by omega) e3 e4]
      exact h6.2.1 f2 k2 hf2 hk2
  · intro i hi
    by_cases e1 : i = 4 * f + 2 * k
    · rw [e1]
      exact hl
    · by_cases e2 : i = 4 * f + 2 * k + 1
      · rw [e2]
        exact hr
      · rw [hR i hi e1 e2]
        exact h6.2.2 i hi
  · obtain ⟨a1, a2, a3⟩ := h7 j hj
    rw [h _ (by omega) (by omega) (by omega) (by omega), h _ (by omega) (by omega) (by omega) (by omega), h _ (by omega) (by omega) (by omega) (by omega), h _ (by omega) (by omega) (by omega) (by omega)]
    exact ⟨iv_E_mono hid hne a1, fun z => iv_E_mono hid hne (a2 z), a3⟩
/-- one more formula, and its goal alone -/
theorem iv_W_conj {n : Nat} {A : Nat → List Nat} {Z : Nat → Nat} {q ng : Nat} {hy hy' : Nat → Bool} {m m' : Nat → List Nat} (hq : q < 8) (h : ∀ s, 1 ≤ s → s < 49 → s ≠ 1 + 2 * q → s ≠ 1 + 2 * q + 1 → m' s = m s) (h0 : (m' 0).length ≤ 48)
    (hE : iv_E (tm_sg n A Z) (iv_R m) (m' (1 + 2 * q)) (m' (1 + 2 * q + 1))) (hg1 : m' 49 = m' (1 + 2 * q)) (hg2 : m' 50 = m' (1 + 2 * q + 1)) (hg3 : m' 51 = []) (hg4 : m' 52 = []) (hh : hy' 0 = false)
    (hW : iv_W n A Z q ng hy m) : iv_W n A Z (q + 1) 1 hy' m' := by
  obtain ⟨h1, h2, h3, _, h5, h6, h7⟩ := hW
  have hR : ∀ i, i < 32 → iv_R m' i = iv_R m i := fun i hi => h _ (by omega) (by omega) (by omega) (by omega)
  refine ⟨h1, by omega, by omega, h0, ⟨fun k hk => ?_, fun i a b => ?_⟩, iv_Wr_ext (fun s a b => h s (by omega) b (by omega) (by omega)) h6, fun j hj => ?_⟩
  · by_cases e : k = q
    · subst e
      exact iv_E_ext hR hE
    · rw [h _ (by omega) (by omega) (by omega) (by omega), h _ (by omega) (by omega) (by omega) (by omega)]
      exact iv_E_ext hR (h5.1 k (by omega))
  · rw [h _ (by omega) (by omega) (by omega) (by omega)]
    exact h5.2 i (by omega) b
  · have e : j = 0 := by omega
    subst e
    refine ⟨?_, fun z => ?_, fun _ => ⟨hg3, hg4⟩⟩
    · show iv_E (tm_sg n A Z) (iv_R m') (m' 49) (m' 50)
      rw [hg1, hg2]
      exact iv_E_ext hR hE
    · rw [hh] at z
      cases z
end
section
/-! 08: well-formed equations, the form of a rule: pure -/
def eq_Q (g : tm_G) (w : List Nat) (e : Nat) : Prop := e < w.length ∧ tm_at w e = 61 ∧ ∃ s, tm_P g [s] (w.take e) ∧ tm_P g [s] (w.drop (e + 1))
theorem eq_sym {n : Nat} {A : Nat → List Nat} {Z : Nat → Nat} (hn : n ≤ 8) : tm_sg n A Z 61 = none := tm_sg_o (by decide) (by decide) (by decide) (by omega)
theorem eq_no {g : tm_G} (h61 : g 61 = none) {S w : List Nat} (hP : tm_P g S w) {i : Nat} (hi : i < w.length) : tm_at w i ≠ 61 := by
  intro z
  obtain ⟨a, s, h⟩ := tm_P_sym hP (tm_at_mem hi)
  rw [z, h61] at h
  cases h
theorem eq_Q_only {g : tm_G} (h61 : g 61 = none) {w : List Nat} {e : Nat} (h : eq_Q g w e) {i : Nat} (hi : i < w.length) (hw : tm_at w i = 61) : i = e := by
  obtain ⟨h1, h2, s, h3, h4⟩ := h
  apply Nat.le_antisymm
  · apply Nat.le_of_not_lt
    intro hlt
    have := eq_no h61 h4 (i := i - (e + 1)) (by rw [List.length_drop]; omega)
    rw [tm_at_drop, show e + 1 + (i - (e + 1)) = i by omega] at this
    exact this hw
  · apply Nat.le_of_not_lt
    intro hlt
    have := eq_no h61 h3 (i := i) (by rw [List.length_take]; omega)
    rw [tm_at_take hlt] at this
    exact this hw
/-- the rule's own shape -/
def eq_rc (w : List Nat) : Nat := if tm_at w 1 = 83 then tm_at w 2 else if tm_at w 1 = 67 then tm_at w 3 else 0
def eq_FL (w : List Nat) (e : Nat) : Prop := tm_fn (tm_at w 0) ∧ tm_kd (tm_at w 1) ≠ none ∧ (∀ i, 2 ≤ i → i < e → tm_vn (tm_at w i) ≠ none) ∧ (∀ i j, 2 ≤ i → i < j → j < e → tm_at w i ≠ tm_at w j)
def eq_FV (w : List Nat) (e : Nat) : Prop := ∀ i, e < i → i < w.length → tm_vn (tm_at w i) ≠ none → ∃ j, j < e ∧ tm_at w j = tm_at w i
def eq_F1 (R : Nat → List Nat) (w : List Nat) (i : Nat) : Prop := tm_fn (tm_at w i) → (tm_at w i < tm_at w 0 ∧ tm_cp R (tm_at w i)) ∨ (tm_at w i = tm_at w 0 ∧ eq_rc w ≠ 0 ∧ tm_at w (i + 1) = eq_rc w)
def eq_FF (R : Nat → List Nat) (w : List Nat) (e : Nat) : Prop := ∀ i, e < i → i < w.length → eq_F1 R w i
def eq_F (R : Nat → List Nat) (w : List Nat) (e : Nat) : Prop := eq_FL w e ∧ eq_FV w e ∧ eq_FF R w e
/-- behind S there is one more symbol of the left side, behind C there are two -/
theorem eq_len {n : Nat} {A : Nat → List Nat} {Z : Nat → Nat} {w : List Nat} {e : Nat} (h : eq_Q (tm_sg n A Z) w e) (hk : tm_kd (tm_at w 1) ≠ none) (hf : tm_fn (tm_at w 0)) : 2 ≤ e ∧ (tm_at w 1 = 83 → 3 ≤ e) ∧ (tm_at w 1 = 67 → 4 ≤ e) := by
  obtain ⟨h1, h2, s, h3, h4⟩ := h
  have e0 : e ≠ 0 := by
    intro z
    subst z
    rw [h2] at hf
    omega
  have e1 : e ≠ 1 := by
    intro z
    subst z
    rw [h2] at hk
    exact hk (by decide)
  have l0 : (w.take e).length = e := by rw [List.length_take]; omega
  refine ⟨by omega, fun z => ?_, fun z => ?_⟩
  · apply Nat.lt_of_not_le
    intro hle
    obtain ⟨a, s', S', hg, _, hP⟩ := tm_P_suf h3 (i := 1) (by omega)
    rw [tm_at_take (by omega), z, tm_sg_83] at hg
    obtain ⟨rfl, rfl⟩ := Prod.mk.inj (Option.some.inj hg)
    rw [List.drop_eq_nil_of_le (by omega)] at hP
    exact absurd hP (fun y => nomatch (show [0] ++ S' = [] from y))
  · apply Nat.lt_of_not_le
    intro hle
    obtain ⟨a, s', S', hg, _, hP⟩ := tm_P_suf h3 (i := 1) (by omega)
    rw [tm_at_take (by omega), z, tm_sg_67] at hg
    obtain ⟨rfl, rfl⟩ := Prod.mk.inj (Option.some.inj hg)
    have hl := tm_P_len' hP
    have h5 := tm_en_le (tm_sg n A Z) ((w.take e).drop (1 + 1)) ([0, 1] ++ S').length
    rw [List.length_drop, l0] at hl h5
    by_cases z2 : e = 2
    · rw [List.drop_eq_nil_of_le (by omega)] at hP
      exact absurd hP (fun y => nomatch (show [0, 1] ++ S' = [] from y))
    · have z3 : e = 3 := by omega
      rw [tm_drop_cons (w := w.take e) (i := 1 + 1) (by omega), List.drop_eq_nil_of_le (by omega)] at hP
      obtain ⟨a, s2, S2, hg2, hS2, hP2⟩ := hP
      have hP2' : a ++ S2 = [] := hP2
      obtain ⟨_, hs⟩ := List.append_eq_nil_iff.mp hP2'
      rw [hs] at hS2
      exact absurd hS2 (fun y => nomatch (List.cons.inj (show 0 :: (1 :: S') = s2 :: [] from y)).2)
theorem eq_RW {n : Nat} {A : Nat → List Nat} {Z : Nat → Nat} {R R' : Nat → List Nat} {w : List Nat} {e k : Nat} (h : eq_Q (tm_sg n A Z) w e) (hF : eq_F R w e) (hk : tm_kd (tm_at w 1) = some k)
    (hl : R' (4 * (tm_at w 0 - 70) + 2 * k) = w.take e) (hr : R' (4 * (tm_at w 0 - 70) + 2 * k + 1) = w.drop (e + 1)) (hne : ∀ i, i < 32 → R i ≠ [] → R' i ≠ []) : tm_RW (tm_sg n A Z) R' (tm_at w 0 - 70) k := by
  obtain ⟨hFL, hFV, hFF⟩ := hF
  have hfn : tm_fn (tm_at w 0) := hFL.1
  obtain ⟨he, _, _⟩ := eq_len h hFL.2.1 hfn
  obtain ⟨h1, h2, s, h3, h4⟩ := h
  have l0 : (w.take e).length = e := by rw [List.length_take]; omega
  have hcons : w.take e = tm_at w 0 :: tm_at w 1 :: (w.take e).drop 2 := by
    have q0 := tm_drop_cons (w := w.take e) (i := 0) (by omega)
    have q1 := tm_drop_cons (w := w.take e) (i := 1) (by omega)
    rw [List.drop_zero, Nat.zero_add, q1, tm_at_take (by omega), tm_at_take (by omega)] at q0
    exact q0
  have hat : ∀ i, i < e - 2 → tm_at ((w.take e).drop 2) i = tm_at w (2 + i) := by
    intro i hi
    rw [tm_at_drop, tm_at_take (by omega)]
  have ld : ((w.take e).drop 2).length = e - 2 := by rw [List.length_drop, l0]
  refine ⟨tm_at w 1, (w.take e).drop 2, s, ?_, hk, ?_, ?_, ?_, ?_, ?_⟩
  · rw [hl, show 70 + (tm_at w 0 - 70) = tm_at w 0 by omega]
    exact hcons
  · intro c hc
    obtain ⟨i, hi, rfl⟩ := tm_mem_at hc
    rw [ld] at hi
    rw [hat i hi]
    exact Option.ne_none_iff_exists'.mp (hFL.2.2.1 (2 + i) (by omega) (by omega))
  · rw [List.nodup_iff_pairwise_ne, List.pairwise_iff_getElem]
    intro i j hi hj hij
    have := hFL.2.2.2 (2 + i) (2 + j) (by omega) (by omega) (by omega)
    rw [← hat i (by omega), ← hat j (by omega), tm_at_lt hi, tm_at_lt hj] at this
    exact this
  · rw [hl]; exact h3
  · rw [hr]; exact h4
  · rw [hr]
    intro c hc hf
    obtain ⟨i, hi, rfl⟩ := tm_mem_at hc
    rw [List.length_drop] at hi
    rw [tm_at_drop] at hf ⊢
    rcases hFF (e + 1 + i) (by omega) (by omega) hf with ⟨_, hp⟩ | ⟨hp, _⟩
    · exact Or.inr (iv_cp_ext hne hf hp)
    · left
      omega
end
section
/-! 09: bytes fed; what the arrays of bindings say; the signature's arrays: pure -/
def fd_w (w0 w1 w2 w3 : Int32) (j : Nat) : Int32 := if j < 4 then w0 else if j < 8 then w1 else if j < 12 then w2 else w3
def fd_b (w0 w1 w2 w3 : Int32) (j : Nat) : Nat := (fd_w w0 w1 w2 w3 j >>> (nI (8 * (j % 4)) &&& 31)).toBitVec.toNat % 256
theorem fd_b_e (w0 w1 w2 w3 : Int32) (j : Nat) : (fd_w w0 w1 w2 w3 j >>> (nI (8 * (j % 4)) &&& 31)) &&& 255 = nI (fd_b w0 w1 w2 w3 j) := pk_and _ 8 (by decide)
theorem fd_b_lt (w0 w1 w2 w3 : Int32) (j : Nat) : fd_b w0 w1 w2 w3 j < 256 := Nat.mod_lt _ (by decide)
def fd_l (b : Nat → Nat) : Nat → Nat → List Nat
  | 0, _ => []
  | k + 1, j => if b j = 0 then [] else b j :: fd_l b k (j + 1)
theorem fd_l_0 {b : Nat → Nat} {k j : Nat} (h : b j = 0) : fd_l b k j = [] := by
  cases k with
  | zero => rfl
  | succ k => exact if_pos h
theorem fd_l_s {b : Nat → Nat} {k j : Nat} (h : b j ≠ 0) : fd_l b (k + 1) j = b j :: fd_l b k (j + 1) := if_neg h
theorem fd_l_len {b : Nat → Nat} (k : Nat) : ∀ j, (fd_l b k j).length ≤ k := by
  induction k with
  | zero => exact fun _ => Nat.zero_le _
  | succ k ih =>
    intro j
    by_cases h : b j = 0
    · rw [fd_l_0 h]
      exact Nat.zero_le _
    · rw [fd_l_s h, List.length_cons]
      have := ih (j + 1)
      omega
theorem fd_l_at {b : Nat → Nat} (k : Nat) : ∀ j i, i < (fd_l b k j).length → tm_at (fd_l b k j) i = b (j + i) := by
  induction k with
  | zero => exact fun _ _ h => absurd h (Nat.not_lt_zero _)
  | succ k ih =>
    intro j i hi
    by_cases h : b j = 0
    · rw [fd_l_0 h] at hi
      exact absurd hi (Nat.not_lt_zero _)
    · rw [fd_l_s h] at hi ⊢
      cases i with
      | zero => rfl
      | succ i =>
        rw [List.length_cons] at hi
        have := ih (j + 1) i (by omega)
        rw [show j + (i + 1) = j + 1 + i by omega, ← this]
        rfl
/-! bindings -/
def rb_X (B : Nat → Int32) (b : Nat → Option Nat) : Prop := ∀ v, v < 16 → (b v = none → B v = -1) ∧ ∀ q0, b v = some q0 → B v = nI q0
theorem rb_X_up {B : Nat → Int32} {b : Nat → Option Nat} {v q : Nat} (h : rb_X B b) : rb_X (upd B v (nI q)) (tm_bu b v q) := by
  intro j hj
  unfold tm_bu
  by_cases e : j = v
  · subst e
    rw [mm_us, if_pos rfl]
    exact ⟨fun z => (nomatch z), fun q0 z => congrArg nI (Option.some.inj z)⟩
  · rw [mm_un e, if_neg e]
    exact h j hj
def rb_Y (g : tm_G) (w : List Nat) (bo bs be : Nat → Int32) (b : Nat → Option Nat) : Prop := ∀ v, v < 16 → (b v = none → bo v = 0) ∧ ∀ q0, b v = some q0 → bo v = 1 ∧ bs v = nI q0 ∧ be v = nI (tm_e g w q0)
theorem rb_Y_up {g : tm_G} {w : List Nat} {bo bs be : Nat → Int32} {b : Nat → Option Nat} {v q : Nat} (h : rb_Y g w bo bs be b) : rb_Y g w (upd bo v 1) (upd bs v (nI q)) (upd be v (nI (tm_e g w q))) (tm_bu b v q) := by
  intro j hj
  unfold tm_bu
  by_cases e : j = v
  · subst e
    rw [mm_us, mm_us, mm_us, if_pos rfl]
    exact ⟨fun z => (nomatch z), fun q0 z => by rw [Option.some.inj z]; exact ⟨rfl, rfl, rfl⟩⟩
  · rw [mm_un e, mm_un e, mm_un e, if_neg e]
    exact h j hj
/-! the signature in arrays -/
def sg_X (g : tm_G) (ay gs so : Nat → Int32) : Prop := ∀ c, c < 256 → (∀ a s, g c = some (a, s) → ay c = nI a.length ∧ gs c = nI (so_num a) ∧ so c = nI s) ∧ (g c = none → ay c = -1)
def sg_Y (n : Nat) (A : Nat → List Nat) (Z : Nat → Nat) (fa fr fe : Nat → Int32) : Prop := ∀ f, f < n → fa f = nI (A f).length ∧ fr f = nI (so_num (A f)) ∧ fe f = nI (Z f)
theorem sg_X_ar {g : tm_G} {ay gs so : Nat → Int32} (h : sg_X g ay gs so) {c : Nat} (hc : c < 256) : ay c = nI (tm_ar g c) ∨ (ay c = -1 ∧ tm_ar g c = 0 ∧ g c = none) := by
  cases e : g c with
  | none =>
    refine Or.inr ⟨(h c hc).2 e, ?_, rfl⟩
    unfold tm_ar
    rw [e]
  | some p =>
    left
    obtain ⟨a, s⟩ := p
    rw [tm_ar_some e]
    exact ((h c hc).1 a s e).1
theorem so_one (a : Nat) : so_num [a] = a := by
  rw [so_num_cons, so_num_nil]
  omega
def so_bits : Nat → Nat → List Nat
  | 0, _ => []
  | k + 1, x => x % 2 :: so_bits k (x / 2)
theorem so_bits_len (k : Nat) : ∀ x, (so_bits k x).length = k := by
  induction k with
  | zero => exact fun _ => rfl
  | succ k ih =>
    intro x
    show (x % 2 :: so_bits k (x / 2)).length = k + 1
    rw [List.length_cons, ih]
theorem so_bits_B (k : Nat) : ∀ x, so_B (so_bits k x) := by
  induction k with
  | zero => exact fun _ _ h => nomatch h
  | succ k ih => exact fun x => so_B_mk (Nat.mod_lt _ (by decide)) (ih _)
theorem so_bits_num (k : Nat) : ∀ x, so_num (so_bits k x) = x % 2 ^ k := by
  induction k with
  | zero =>
    intro x
    rw [Nat.pow_zero, Nat.mod_one]
    rfl
  | succ k ih =>
    intro x
    show so_num (x % 2 :: so_bits k (x / 2)) = _
    rw [so_num_cons, ih, Nat.pow_succ, Nat.mul_comm (2 ^ k) 2, Nat.mod_mul]
theorem so_bit_at {S : List Nat} (hB : so_B S) {j : Nat} (hj : j < S.length) : so_num S / 2 ^ j % 2 = tm_at S j := by
  rw [(so_td S j (by omega) hB).2, tm_drop_cons hj, so_num_cons]
  have := hB _ (tm_at_mem hj)
  omega
end
section
/-! 10: the class: symbols, appending, copying -/
section XA
variable {xn xq xa xg : Int32} {T L ay gs so E B pv vl el : Nat → Int32} {m : Nat → List Nat}
theorem xi_ix (s i : Nat) : nI s * 49 + nI i = nI (s * 49 + i) := by
  rw [show (49 : Int32) = nI 49 from rfl, pk_mul, nI_add]
theorem xi_nar {c : Nat} (h : c < 65536) : vp_nar .char (nI c) = nI c := by
  unfold vp_nar
  rw [(pk_charN h).1]
theorem xi_pl {j k : Nat} (hj : j < 2 ^ 30) (hk : k < 2 ^ 30) : nI j - 1 < nI k ↔ j ≤ k := by
  rw [Int32.lt_iff_toInt_lt, show (1 : Int32) = nI 1 from rfl, pk_sub_toInt hj (by omega), nI_toInt (by omega)]
  omega
theorem xi_pl0 {j : Nat} (hj : j < 2 ^ 30) : nI j - 1 < 0 ↔ j = 0 := by
  have := xi_pl (j := j) (k := 0) hj (by omega)
  rw [nI_0] at this
  rw [this]
  omega
theorem xi_m1 {j : Nat} (h : 0 < j) : nI j - 1 = nI (j - 1) := pk_sub (b := 1) h
theorem xi_m1' (j : Nat) : nI (j + 1) - 1 = nI j := nI_pred j
theorem xi_neg {n : Nat} (h : n < 2 ^ 31) : ¬ nI n = -1 := by
  intro z
  have h1 := congrArg Int32.toInt z
  rw [nI_toInt h, show (-1 : Int32).toInt = -1 from by decide] at h1
  omega
theorem xp_sym {post : Int32 → Prop} (hM : mm_M 49 86 T L m) {s i : Nat} (hs : s < 86) (hi : i < 2 ^ 31) (h : post (nI (tm_at (m s) i))) : wpX_symbolAt post (xn, xq, xa, xg, T, L, ay, gs, so, E, B, pv, vl, el) (nI s) (nI i) := by
  unfold wpX_symbolAt
  dsimp only
  have hl := mm_len hM hs
  have hle := mm_le hM hs
  refine br_f (nI_pos hi) ⟨vp_in_nI hs (by omega), ?_⟩
  rw [nI_clamp (n := s) (by omega), hl]
  refine pk_lt i (m s).length (fun hlt => ?_) (fun hge => ?_)
  · rw [xi_ix, nI_clamp (by omega), mm_t hM hs hlt]
    have := mm_b hM hs i
    exact ⟨vp_in_nI (by omega) (by omega), (pk_charN (by omega)).1, h⟩
  · rw [tm_at_ge hge] at h
    exact h
theorem xp_symn {post : Int32 → Prop} {x y : Int32} (hi : y < 0) (h : post 0) : wpX_symbolAt post (xn, xq, xa, xg, T, L, ay, gs, so, E, B, pv, vl, el) x y := by
  unfold wpX_symbolAt
  dsimp only
  exact br_t hi h
theorem xp_append {post : St1 → Prop} (hM : mm_M 49 86 T L m) {s c : Nat} (hs : s < 86) (hc : c < 256) (h : ∀ T' L', mm_M 49 86 T' L' (mm_set m s ((m s ++ [c]).take 49)) → post (xn, xq, xa, xg, T', L', ay, gs, so, E, B, pv, vl, el)) : wpX_append post (xn, xq, xa, xg, T, L, ay, gs, so, E, B, pv, vl, el) (nI s) (nI c) := by
  unfold wpX_append
  dsimp only
  have hl := mm_len hM hs
  have hle := mm_le hM hs
  rw [nI_clamp (n := s) (by omega), hl]
  refine ⟨vp_in_nI hs (by omega), nm_e ?_⟩
  refine pk_le 49 (m s).length (fun hge => ?_) (fun hlt => ?_)
  · apply h
    rw [List.take_append_of_le_length hge, mm_tl hle, mm_set_self]
    exact hM
  · rw [xi_ix, nI_clamp (by omega), nI_1, xi_nar (by omega)]
    refine ⟨vp_in_nI (by omega) (by omega), nm_e ⟨vp_in_nI hs (by omega), nm_e ?_⟩⟩
    apply h
    rw [mm_tl (by rw [List.length_append, List.length_singleton]; omega)]
    exact mm_put hM hs rfl hlt hc
theorem xl_copySpan {post : St1 → Prop} {t s stop : Nat} (ht : t < 86) (hs : s < 86) (hts : s ≠ t) (hstop : stop ≤ (m s).length) : ∀ (n i : Nat) (T : Nat → Int32) (m' : Nat → List Nat), stop < n + i → i ≤ stop → m' s = m s → mm_M 49 86 T (upd L t (nI (m' t).length)) m' →
    (∀ T' L', mm_M 49 86 T' L' (mm_set m' t ((m' t ++ ((m s).drop i).take (stop - i)).take 49)) → post (xn, xq, xa, xg, T', L', ay, gs, so, E, B, pv, vl, el)) → wX_copySpan_11 post (nI t) (nI s) (nI stop) xn xq xa xg n (nI (m' t).length) (nI i) T L ay gs so E B pv vl el := by
  intro n
  induction n with
  | zero => intro i T m' h1 h2; omega
  | succ n ih =>
    intro i T m' h1 h2 hms hM h
    have hle := mm_le hM ht
    have hls := mm_le hM hs
    rw [hms] at hls
    rw [wX_copySpan_11]
    rw [nI_clamp (n := t) (by omega)]
    refine pk_le stop i (fun hge => ?_) (fun hlt => ?_)
    · refine ⟨vp_in_nI ht (by omega), nm_e ?_⟩
      apply h
      rw [show stop - i = 0 by omega, List.take_zero, List.append_nil, mm_tl hle, mm_set_self]
      exact hM
    · refine pk_le 49 (m' t).length (fun hge => ?_) (fun hl2 => ?_)
      · refine ⟨vp_in_nI ht (by omega), nm_e ?_⟩
        apply h
        rw [List.take_append_of_le_length hge, mm_tl hle, mm_set_self]
        exact hM
      · have hb := mm_b hM hs i
        have hT := mm_t hM hs (i := i) (by rw [hms]; omega)
        rw [hms] at hb hT
        rw [xi_ix, xi_ix, nI_clamp (n := s * 49 + i) (by omega), nI_clamp (n := t * 49 + (m' t).length) (by omega), hT, xi_nar (by omega), nI_1, nI_1]
        refine ⟨vp_in_nI (by omega) (by omega), vp_in_nI (by omega) (by omega), nm_e (nm_e (nm_e ?_))⟩
        have hP := mm_put hM ht rfl hl2 hb
        rw [mm_uu] at hP
        have e1 : (mm_set m' t (m' t ++ [tm_at (m s) i]) t).length = (m' t).length + 1 := by
          rw [mm_set_s, List.length_append, List.length_singleton]
        rw [← e1]
        refine ih (i + 1) _ _ (by omega) (by omega) ?_ ?_ ?_
        · rw [mm_set_n hts, hms]
        · rw [e1]
          exact hP
        · intro T' L' hM'
          apply h
          rw [mm_set_s, mm_set_set] at hM'
          rw [show ((m s).drop i).take (stop - i) = tm_at (m s) i :: ((m s).drop (i + 1)).take (stop - (i + 1)) by
            rw [tm_drop_cons (by omega), show stop - i = (stop - (i + 1)) + 1 by omega, List.take_succ_cons]]
          rw [List.append_assoc] at hM'
          exact hM'
theorem xp_copySpan {post : St1 → Prop} (hM : mm_M 49 86 T L m) {t s start stop : Nat} (ht : t < 86) (hs : s < 86) (hts : s ≠ t) (hstop : stop ≤ (m s).length) (hst : start ≤ stop) (h : ∀ T' L', mm_M 49 86 T' L' (mm_set m t ((m t ++ ((m s).drop start).take (stop - start)).take 49)) → post (xn, xq, xa, xg, T', L', ay, gs, so, E, B, pv, vl, el)) : wpX_copySpan post (xn, xq, xa, xg, T, L, ay, gs, so, E, B, pv, vl, el) (nI t) (nI s) (nI start) (nI stop) := by
  unfold wpX_copySpan
  dsimp only
  have hl := mm_len hM ht
  rw [nI_clamp (n := t) (by omega)]
  refine ⟨vp_in_nI ht (by omega), nm_r hl ?_⟩
  refine ⟨stop + 1, xl_copySpan (m := m) ht hs hts hstop (stop + 1) start T m (by omega) hst rfl ?_ h⟩
  rw [mm_ue hl]
  exact hM
theorem xp_copyText {post : St1 → Prop} (hM : mm_M 49 86 T L m) {t s : Nat} (ht : t < 86) (hs : s < 86) (hts : s ≠ t) (h : ∀ T' L', mm_M 49 86 T' L' (mm_set m t (m s)) → post (xn, xq, xa, xg, T', L', ay, gs, so, E, B, pv, vl, el)) : wpX_copyText post (xn, xq, xa, xg, T, L, ay, gs, so, E, B, pv, vl, el) (nI s) (nI t) := by
  unfold wpX_copyText
  dsimp only
  have h0 := mm_nil hM ht
  have hl := mm_len h0 hs
  rw [mm_set_n hts] at hl
  have hle := mm_le hM hs
  rw [nI_clamp (n := t) (by omega)]
  refine ⟨vp_in_nI ht (by omega), nm_e ⟨vp_in_nI hs (by omega), ?_⟩⟩
  rw [nI_clamp (n := s) (by omega), hl]
  refine xp_copySpan h0 (start := 0) ht hs hts (by rw [mm_set_n hts]; exact Nat.le_refl _) (Nat.zero_le _) ?_
  intro T' L' hM'
  apply h
  rw [mm_set_s, mm_set_set, List.nil_append, mm_set_n hts, List.drop_zero, Nat.sub_zero, mm_tl (Nat.le_refl _), mm_tl hle] at hM'
  exact hM'
/-! what a symbol is -/
theorem xp_vnum {post : Int32 → Prop} {c : Nat} (hc : c < 65536) (h1 : ∀ v, tm_vn c = some v → v < 16 → post (nI v)) (h0 : tm_vn c = none → post (-1)) : wpX_variableNumber post () (nI c) := by
  unfold wpX_variableNumber wX_variableNumber_17
  have hb : ∀ (_ : ¬ (97 ≤ c ∧ c ≤ 104)), (nI c < 112 → post (-1)) ∧ (¬ nI c < 112 → (119 < nI c → post (-1)) ∧ (¬ 119 < nI c → post (nI c - 112 + 8))) := by
    intro hn
    refine pk_lt c 112 (fun a => h0 ?_) (fun a => pk_lt 119 c (fun b => h0 ?_) (fun b => ?_))
    · unfold tm_vn
      rw [if_neg hn, if_neg (by omega)]
    · unfold tm_vn
      rw [if_neg hn, if_neg (by omega)]
    · rw [show nI c - 112 + 8 = nI (c - 104) by
        rw [show nI c - 112 = nI (c - 112) from pk_sub (b := 112) a, show nI (c - 112) + 8 = nI (c - 112 + 8) from nI_add _ 8, show c - 112 + 8 = c - 104 by omega]]
      refine h1 (c - 104) ?_ (by omega)
      unfold tm_vn
      rw [if_neg hn, if_pos (by omega)]
  refine pk_lt c 97 (fun a => hb (by omega)) (fun a => pk_lt 104 c (fun b => hb (by omega)) (fun b => ?_))
  rw [show nI c - 97 = nI (c - 97) from pk_sub (b := 97) a]
  refine h1 (c - 97) ?_ (by omega)
  unfold tm_vn
  rw [if_pos (by omega)]
theorem xp_kind {post : Int32 → Prop} {c : Nat} (hc : c < 65536) (h1 : ∀ k, tm_kd c = some k → post (nI k)) (h0 : tm_kd c = none → post (-1)) : wpX_constructorKind post () (nI c) := by
  unfold wpX_constructorKind
  refine pk_eq c 90 (fun a => h1 0 ?_) (fun a => pk_eq c 78 (fun b => h1 0 ?_) (fun b => pk_eq c 83 (fun d => h1 1 ?_) (fun d => pk_eq c 67 (fun e => h1 1 ?_) (fun e => h0 ?_))))
  · rw [a]; rfl
  · rw [b]; rfl
  · rw [d]; rfl
  · rw [e]; rfl
  · unfold tm_kd
    rw [if_neg (by omega), if_neg (by omega)]
theorem xp_isf {post : Int32 → Prop} {c : Nat} (hc : c < 65536) (h1 : tm_fn c → post 1) (h0 : ¬ tm_fn c → post 0) : wpX_isFunction post () (nI c) := by
  unfold wpX_isFunction
  exact pk_lt c 70 (fun a => h0 (by omega)) (fun a => pk_lt 77 c (fun b => h0 (by omega)) (fun b => h1 (by omega)))
theorem xp_letter {post : Int32 → Prop} {v : Nat} (hv : v < 16) (h : post (nI (tm_vc v))) : wpX_variableLetter post () (nI v) := by
  unfold wpX_variableLetter
  have key : ∀ (x : Int32) (c : Nat), x = nI c → c < 256 → post (nI c) → (narrow .char (.int (x.toUInt32 % 65536).toInt32) = .int (x.toUInt32 % 65536).toInt32 ∧ post (x.toUInt32 % 65536).toInt32) := by
    intro x c e hc hp
    have e2 : (x.toUInt32 % 65536).toInt32 = nI c := by
      rw [pk_char, e, pk_tn (by omega), Nat.mod_eq_of_lt (by omega)]
    rw [e2]
    exact ⟨(pk_charN (by omega)).1, hp⟩
  unfold tm_vc at h
  refine pk_le 8 v (fun a => ?_) (fun a => ?_)
  · rw [if_neg (by omega)] at h
    refine (key _ (104 + v) ?_ (by omega) h).2
    rw [show (112 : Int32) + nI v = nI (112 + v) from nI_add 112 v, show nI (112 + v) - 8 = nI (112 + v - 8) from pk_sub (b := 8) (by omega), show 112 + v - 8 = 104 + v by omega]
  · rw [if_pos (by omega)] at h
    exact (key _ (97 + v) (nI_add 97 v) (by omega) h).2
end XA
end
section
/-! 11: the class: sets of variables, sorts, equations -/
section XB
variable {xn xq xa xg : Int32} {T L ay gs so E B pv vl el : Nat → Int32} {m : Nat → List Nat} {g : tm_G}
theorem xi_vcinj {u v : Nat} (hu : u < 16) (hv : v < 16) (h : tm_vc u = tm_vc v) : u = v := by
  have h1 := tm_vn_vc hu
  rw [h, tm_vn_vc hv] at h1
  exact (Option.some.inj h1).symm
theorem xi_dt {w : List Nat} {start i : Nat} (h : start ≤ i) (hi : i < w.length) : (w.take (i + 1)).drop start = (w.take i).drop start ++ [tm_at w i] := by
  rw [← mm_snoc hi, List.drop_append_of_le_length (by rw [List.length_take]; omega)]
theorem xl_vars {post : Int32 → Prop} (hM : mm_M 49 86 T L m) {s stop start : Nat} (hs : s < 86) (hstop : stop ≤ (m s).length) (h : ∀ k, vz_S k (fun v => tm_vc v ∈ ((m s).take stop).drop start) → post (nI k)) :
    ∀ n i k, stop < n + i → start ≤ i → i ≤ stop → vz_S k (fun v => tm_vc v ∈ ((m s).take i).drop start) → wX_variablesIn_6 post (nI s) (nI stop) xn xq xa xg T L ay gs so E B pv vl el n (nI k) (nI i) := by
  have hle := mm_le hM hs
  intro n
  induction n with
  | zero => intro i k h1 h2 h3; omega
  | succ n ih =>
    intro i k h1 h2 h3 hk
    rw [wX_variablesIn_6]
    refine pk_le stop i (fun hge => ?_) (fun hlt => ?_)
    · have e : i = stop := by omega
      subst e
      exact h k hk
    · have hb := mm_b hM hs i
      refine xp_sym hM hs (by omega) ?_
      refine xp_vnum (by omega) (fun v hv hv16 => ?_) (fun hv => ?_)
      · refine br_f (nI_pos (by omega)) (nm_r (by rw [vz_one hv16, vz_or]) (nm_r (nI_1 i) ?_))
        refine ih (i + 1) (k ||| 2 ^ v) (by omega) (by omega) (by omega) (vz_S_iff ?_ (vz_S_or hk (vz_S_one hv16)))
        intro u hu
        rw [xi_dt h2 (by omega), List.mem_append, List.mem_singleton, (tm_vn_ch hv).1]
        constructor
        · rintro (a | a)
          · exact Or.inl a
          · exact Or.inr (by rw [a])
        · rintro (a | a)
          · exact Or.inl a
          · exact Or.inr (xi_vcinj hu hv16 a)
      · refine br_t (by decide) (nm_r (nI_1 i) ?_)
        refine ih (i + 1) k (by omega) (by omega) (by omega) (vz_S_iff ?_ hk)
        intro u hu
        rw [xi_dt h2 (by omega), List.mem_append, List.mem_singleton]
        constructor
        · exact fun a => Or.inl a
        · rintro (a | a)
          · exact a
          · rw [← a, tm_vn_vc hu] at hv
            cases hv
theorem xp_vars {post : Int32 → Prop} (hM : mm_M 49 86 T L m) {s stop start : Nat} (hs : s < 86) (hstop : stop ≤ (m s).length) (hst : start ≤ stop) (h : ∀ k, vz_S k (fun v => tm_vc v ∈ ((m s).take stop).drop start) → post (nI k)) : wpX_variablesIn post (xn, xq, xa, xg, T, L, ay, gs, so, E, B, pv, vl, el) (nI s) (nI start) (nI stop) := by
  unfold wpX_variablesIn
  dsimp only
  refine ⟨stop + 1, xl_vars hM hs hstop h (stop + 1) start 0 (by omega) (Nat.le_refl _) hst (vz_S_iff ?_ vz_S_0)⟩
  intro v _
  rw [List.drop_take_self]
  exact ⟨fun z => z.elim, fun z => (nomatch z)⟩
theorem xp_varsOf {post : Int32 → Prop} (hM : mm_M 49 86 T L m) {s : Nat} (hs : s < 86) (h : ∀ k, vz_S k (fun v => tm_vc v ∈ m s) → post (nI k)) : wpX_variablesOf post (xn, xq, xa, xg, T, L, ay, gs, so, E, B, pv, vl, el) (nI s) := by
  unfold wpX_variablesOf
  dsimp only
  rw [nI_clamp (n := s) (by omega), mm_len hM hs]
  refine ⟨vp_in_nI hs (by omega), ?_⟩
  refine xp_vars (start := 0) hM hs (Nat.le_refl _) (Nat.zero_le _) (fun k hk => h k ?_)
  rw [mm_tl (Nat.le_refl _), List.drop_zero] at hk
  exact hk
theorem xi_sh : ∀ a, a < 4 → (((nI a).toInt64 &&& 63).toBitVec.smod 64).toNat = a := by decide +kernel
theorem xi_p48 {S : List Nat} (hB : so_B S) (hl : S.length ≤ 49) : so_num S < 2 ^ 49 := Nat.lt_of_lt_of_le (so_lt S hB) (Nat.pow_le_pow_right (by decide) hl)
theorem xl_sort45 {post : Int32 → Prop} {J : Int64 → Int32 → Int32 → Prop} {x1 x2 : Int32} {n : Nat} {A : Nat → List Nat} {Z : Nat → Nat} (hS : tm_SG n A Z) (hg : sg_X (tm_sg n A Z) ay gs so) {c j : Nat} {S : List Nat} (hc : c < 256) (hB : so_B S) (hl : S.length ≤ 48) (hj : j < 2 ^ 30)
    (hok : ∀ a s, tm_sg n A Z c = some (a, s) → S.take a.length = a → so_B (s :: S.drop a.length) → J (lN (so_num (s :: S.drop a.length))) (nI (s :: S.drop a.length).length) (nI j - 1)) (hno : (∀ a s, tm_sg n A Z c = some (a, s) → S.take a.length ≠ a) → post (-1)) :
    wX_termSort_45 post J x1 x2 (lN (so_num S)) (nI S.length) (nI j) (nI c) (ay c) xn xq xa xg T L ay gs so E B pv vl el := by
  unfold wX_termSort_45
  have hn := xi_p48 hB (by omega)
  cases e : tm_sg n A Z c with
  | none =>
    rw [(hg c hc).2 e]
    refine br_t (by decide) (hno ?_)
    intro a s h
    rw [e] at h
    cases h
  | some p =>
    obtain ⟨a, s⟩ := p
    obtain ⟨h1, h2, h3⟩ := (hg c hc).1 a s e
    obtain ⟨b1, b2, b3, _, _⟩ := tm_sg_b hS e
    have hna := so_lt a b2
    have hpw : 2 ^ a.length ≤ 2 ^ 3 := Nat.pow_le_pow_right (by decide) b1
    rw [h1]
    refine br_f (nI_pos (by omega)) ?_
    rw [nI_clamp (n := c) (by omega), h2, h3]
    refine pk_le a.length S.length (fun hle => ?_) (fun hgt => ?_)
    · obtain ⟨t1, t2⟩ := so_td S a.length hle hB
      refine nm_r (e' := lN (so_num (S.take a.length))) ?_ ⟨vp_in_nI hc (by omega), ?_⟩
      · rw [show (1 : Int64) <<< ((nI a.length).toInt64 &&& 63) = lN (1 * 2 ^ a.length) from wb_shl 1 (by omega), Nat.one_mul, show lN (2 ^ a.length) - 1 = lN (2 ^ a.length - 1) from lN_sub (b := 1) (Nat.two_pow_pos _), wb_mask (by omega) (by omega), t1]
      · have hnt : so_num (S.take a.length) < 2 ^ 3 := by
          rw [← t1]
          exact Nat.lt_of_lt_of_le (Nat.mod_lt _ (Nat.two_pow_pos _)) hpw
        rw [nI_l (n := so_num a) (by omega), nI_l (n := s) (by omega)]
        by_cases q : S.take a.length = a
        · refine br_t (by rw [q]) ⟨vp_in_nI hc (by omega), ?_⟩
          have hBn : so_B (s :: S.drop a.length) := so_B_mk b3 (so_B_drop hB _)
          have hdl : so_num (S.drop a.length) ≤ so_num S := by
            rw [← t2]
            exact Nat.div_le_self _ _
          refine nm_r (e' := lN (so_num (s :: S.drop a.length))) ?_ (nm_r (e' := nI (s :: S.drop a.length).length) ?_ (nm_r (e' := nI j - 1) ?_ (hok a s e q hBn)))
          · rw [pf_shr (xi_sh _ (by omega)) (by omega), t2, show lN (so_num (S.drop a.length)) <<< ((1 : Int32).toInt64 &&& 63) = lN (so_num (S.drop a.length) * 2 ^ 1) from wb_shl (k := 1) _ (by decide), g_or (k := 1) (p := 2 ^ 1) rfl (by omega) (by omega), so_num_cons]
            exact congrArg lN (by omega)
          · rw [List.length_cons, List.length_drop]
            rw [show nI (S.length - a.length + 1) = nI S.length + nI 1 - nI a.length by rw [nI_add, pk_sub (by omega)]; exact congrArg nI (by omega)]
            show nI S.length + (nI 1 - nI a.length) = _
            rw [Int32.sub_eq_add_neg, Int32.sub_eq_add_neg, Int32.add_assoc]
          · rw [Int32.sub_eq_add_neg]
        · refine br_f ?_ (hno ?_)
          · intro z
            apply q
            rw [lN_eq (by omega) (by omega)] at z
            exact so_inj _ _ (by rw [List.length_take]; omega) (fun x hx => hB x (List.mem_of_mem_take hx)) b2 z
          · intro a2 s2 z2
            rw [e] at z2
            obtain ⟨rfl, rfl⟩ := Prod.mk.inj (Option.some.inj z2)
            exact q
    · refine hno ?_
      intro a2 s2 z2
      rw [e] at z2
      obtain ⟨rfl, rfl⟩ := Prod.mk.inj (Option.some.inj z2)
      intro z
      have := congrArg List.length z
      rw [List.length_take] at this
      omega
theorem xl_sort {post : Int32 → Prop} {n : Nat} {A : Nat → List Nat} {Z : Nat → Nat} (hS : tm_SG n A Z) (hg : sg_X (tm_sg n A Z) ay gs so) (hM : mm_M 49 86 T L m) {s start stop : Nat} (hs : s < 86) (hstop : stop ≤ (m s).length) (h48 : stop ≤ 48) (hst : start ≤ stop + 1)
    (h1 : ∀ sv, tm_ts (tm_sg n A Z) (((m s).take stop).drop start) = some sv → post (nI sv)) (h0 : tm_ts (tm_sg n A Z) (((m s).take stop).drop start) = none → post (-1)) :
    ∀ k j S, j < k → j ≤ stop → (start ≤ j ∨ j = stop) → so_B S → S.length ≤ stop - j → tm_bk (tm_sg n A Z) (((m s).take stop).drop j) = some S → wX_termSort_11 post (nI s) (nI start) xn xq xa xg T L ay gs so E B pv vl el k (lN (so_num S)) (nI S.length) (nI j - 1) := by
  intro k
  induction k with
  | zero => intro j S hj; omega
  | succ k ih =>
    intro j S hj hjs hjj hB hl hb
    rw [wX_termSort_11]
    have hlt : ((m s).take stop).length = stop := by rw [List.length_take]; omega
    by_cases hend : j ≤ start
    · refine br_t ((xi_pl (by omega) (by omega)).mpr hend) ?_
      have e : ((m s).take stop).drop start = ((m s).take stop).drop j := by
        by_cases q : j = start
        · rw [q]
        · rw [List.drop_eq_nil_of_le (by omega), List.drop_eq_nil_of_le (by omega)]
      rw [e] at h1 h0
      have hn := xi_p48 hB (by omega)
      refine pk_eq S.length 1 (fun h => ?_) (fun h => ?_)
      · obtain ⟨a, rfl⟩ := List.length_eq_one_iff.mp h
        rw [lN_i, so_one]
        apply h1
        exact tm_ts_P.mpr ((tm_bk_P _ _).mp hb)
      · apply h0
        apply tm_ts_no
        intro sv hP
        have := (tm_bk_P _ _).mpr hP
        rw [hb] at this
        rw [Option.some.inj this] at h
        exact h rfl
    · refine br_f (by rw [xi_pl (by omega) (by omega)]; exact hend) ?_
      obtain ⟨i, rfl⟩ : ∃ i, j = i + 1 := ⟨j - 1, by omega⟩
      rw [xi_m1']
      have hbb := mm_b hM hs i
      refine xp_sym hM hs (by omega) ?_
      refine br_f (nI_ge (b := 256) hbb (by decide)) ⟨vp_in_nI hbb (by omega), ?_⟩
      rw [nI_clamp (n := tm_at (m s) i) (by omega)]
      have hat : ((m s).take stop).drop i = tm_at (m s) i :: ((m s).take stop).drop (i + 1) := by
        rw [tm_drop_cons (by omega), tm_at_take (by omega)]
      refine xl_sort45 hS hg hbb hB (by omega) (by omega) ?_ ?_
      · intro a sv hga htk hBn
        refine ih i _ (by omega) (by omega) (by omega) hBn ?_ ?_
        · rw [List.length_cons, List.length_drop]
          omega
        · rw [hat, tm_bk, hb]
          dsimp only
          rw [hga]
          dsimp only
          rw [if_pos htk]
      · intro hno
        apply h0
        apply tm_ts_no
        intro sv hP
        have hd : ((((m s).take stop).drop start).drop (i - start)) = ((m s).take stop).drop i := by
          rw [List.drop_drop]
          exact congrArg (fun z => List.drop z _) (by omega)
        obtain ⟨S2, hP2⟩ := tm_P_drop _ _ hP (i - start)
        rw [hd, hat] at hP2
        obtain ⟨a, s2, S3, hga, rfl, hP3⟩ := hP2
        have hb2 := (tm_bk_P _ _).mpr hP3
        rw [hb] at hb2
        apply hno a s2 hga
        rw [Option.some.inj hb2, List.take_left' rfl]
theorem xp_sort {post : Int32 → Prop} {n : Nat} {A : Nat → List Nat} {Z : Nat → Nat} (hS : tm_SG n A Z) (hg : sg_X (tm_sg n A Z) ay gs so) (hM : mm_M 49 86 T L m) {s start stop : Nat} (hs : s < 86) (hstop : stop ≤ (m s).length) (h48 : stop ≤ 48) (hst : start ≤ stop + 1)
    (h1 : ∀ sv, tm_ts (tm_sg n A Z) (((m s).take stop).drop start) = some sv → post (nI sv)) (h0 : tm_ts (tm_sg n A Z) (((m s).take stop).drop start) = none → post (-1)) : wpX_termSort post (xn, xq, xa, xg, T, L, ay, gs, so, E, B, pv, vl, el) (nI s) (nI start) (nI stop) := by
  unfold wpX_termSort
  dsimp only
  refine nm_e ⟨stop + 1, xl_sort hS hg hM hs hstop h48 hst h1 h0 (stop + 1) stop [] (by omega) (Nat.le_refl _) (Or.inr rfl) (fun x hx => nomatch hx) (Nat.zero_le _) ?_⟩
  rw [List.drop_eq_nil_of_le (by rw [List.length_take]; omega)]
  rfl
theorem xl_feq31 {post : Int32 → Prop} {n : Nat} {A : Nat → List Nat} {Z : Nat → Nat} (hS : tm_SG n A Z) (hg : sg_X (tm_sg n A Z) ay gs so) (hM : mm_M 49 86 T L m) (h48 : (m 0).length ≤ 48)
    (h1 : ∀ e, eq_Q (tm_sg n A Z) (m 0) e → post (nI e)) (h0 : (∀ e, ¬ eq_Q (tm_sg n A Z) (m 0) e) → post (-1)) {e : Nat} (he : e ≤ (m 0).length) (h61 : e < (m 0).length → tm_at (m 0) e = 61) (hbe : ∀ j, j < e → tm_at (m 0) j ≠ 61) : wX_findEquation_31 post (nI e) xn xq xa xg T L ay gs so E B pv vl el := by
  unfold wX_findEquation_31
  have g61 : tm_sg n A Z 61 = none := eq_sym hS.1
  have hfail : (∀ s, ¬ (tm_P (tm_sg n A Z) [s] ((m 0).take e) ∧ tm_P (tm_sg n A Z) [s] ((m 0).drop (e + 1)))) → post (-1) := by
    intro hn
    apply h0
    intro e' hQ
    have hQ2 := hQ
    obtain ⟨q1, q2, s, q3, q4⟩ := hQ2
    have hge : e ≤ e' := Nat.le_of_not_lt (fun z => hbe e' z q2)
    have hee : e = e' := eq_Q_only g61 hQ (by omega) (h61 (by omega))
    rw [← hee] at q3 q4
    exact hn s ⟨q3, q4⟩
  refine xp_sort (start := 0) (s := 0) hS hg hM (by omega) he (by omega) (by omega) (fun s1 t1 => ?_) (fun t1 => ?_)
  · rw [List.drop_zero] at t1
    show wpX_termSort _ _ 0 (nI e + 1) (L 0)
    rw [nI_1, mm_len hM (by omega : (0 : Nat) < 86)]
    refine xp_sort (s := 0) hS hg hM (by omega) (Nat.le_refl _) h48 (by omega) (fun s2 t2 => ?_) (fun t2 => ?_)
    · rw [mm_tl (Nat.le_refl _)] at t2
      have p1 := tm_ts_P.mp t1
      have p2 := tm_ts_P.mp t2
      have b1 : s1 < 2 := by
        obtain ⟨a, s, S', hga, hSS, _⟩ := (tm_P_suf p1 (i := 0) (tm_P_ne p1))
        have := tm_P_uniq _ _ _ (show tm_P _ (s :: S') ((m 0).take e) from by rw [List.drop_zero] at hSS; exact hSS) p1
        obtain ⟨rfl, _⟩ := List.cons.inj this
        exact (tm_sg_b hS hga).2.2.1
      have b2 : s2 < 2 := by
        obtain ⟨a, s, S', hga, hSS, _⟩ := (tm_P_suf p2 (i := 0) (tm_P_ne p2))
        have := tm_P_uniq _ _ _ (show tm_P _ (s :: S') ((m 0).drop (e + 1)) from by rw [List.drop_zero] at hSS; exact hSS) p2
        obtain ⟨rfl, _⟩ := List.cons.inj this
        exact (tm_sg_b hS hga).2.2.1
      refine br_f (nI_pos (by omega)) (pk_eq s1 s2 (fun q => ?_) (fun q => ?_))
      · subst q
        apply h1
        have hlen := tm_P_ne p2
        rw [List.length_drop] at hlen
        exact ⟨by omega, h61 (by omega), s1, p1, p2⟩
      · apply hfail
        intro s ⟨r1, r2⟩
        have q1 := tm_P_uniq _ _ _ r1 p1
        have q2 := tm_P_uniq _ _ _ r2 p2
        exact q (by rw [← (List.cons.inj q1).1, (List.cons.inj q2).1])
    · rw [mm_tl (Nat.le_refl _)] at t2
      have hf : post (-1) := by
        apply hfail
        intro s ⟨r1, r2⟩
        rw [tm_ts_P.mpr r2] at t2
        cases t2
      by_cases q : nI s1 < 0
      · exact br_t q hf
      · refine br_f q ?_
        by_cases q2 : nI s1 = -1
        · rw [q2] at q
          exact absurd (by decide) q
        · exact br_f q2 hf
  · rw [List.drop_zero] at t1
    have hf : post (-1) := by
      apply hfail
      intro s ⟨r1, r2⟩
      rw [tm_ts_P.mpr r1] at t1
      cases t1
    show wpX_termSort _ _ 0 (nI e + 1) (L 0)
    rw [nI_1, mm_len hM (by omega : (0 : Nat) < 86)]
    exact xp_sort (s := 0) hS hg hM (by omega) (Nat.le_refl _) h48 (by omega) (fun s2 t2 => br_t (by decide) hf) (fun t2 => br_t (by decide) hf)
theorem xl_feq {post : Int32 → Prop} {n : Nat} {A : Nat → List Nat} {Z : Nat → Nat} (hS : tm_SG n A Z) (hg : sg_X (tm_sg n A Z) ay gs so) (hM : mm_M 49 86 T L m) (h48 : (m 0).length ≤ 48)
    (h1 : ∀ e, eq_Q (tm_sg n A Z) (m 0) e → post (nI e)) (h0 : (∀ e, ¬ eq_Q (tm_sg n A Z) (m 0) e) → post (-1)) : ∀ k i, (m 0).length < k + i → i ≤ (m 0).length → (∀ j, j < i → tm_at (m 0) j ≠ 61) → wX_findEquation_2 post xn xq xa xg T L ay gs so E B pv vl el k (nI i) := by
  intro k
  induction k with
  | zero => intro i a b; omega
  | succ k ih =>
    intro i ha hb hj
    rw [wX_findEquation_2]
    rw [mm_len hM (by omega : (0 : Nat) < 86)]
    refine pk_le (m 0).length i (fun hge => ?_) (fun hlt => ?_)
    · exact xl_feq31 hS hg hM h48 h1 h0 hb (fun z => by omega) hj
    · have hT := mm_t hM (s := 0) (by omega) hlt
      have hbb := mm_b hM (s := 0) (by omega) i
      rw [show (0 : Int32) + nI i = nI (0 * 49 + i) from by rw [show (0 : Int32) + nI i = nI (0 + i) from nI_add 0 i], nI_clamp (by omega), hT]
      refine ⟨vp_in_nI (by omega) (by omega), pk_eq (tm_at (m 0) i) 61 (fun q => ?_) (fun q => ?_)⟩
      · exact xl_feq31 hS hg hM h48 h1 h0 hb (fun _ => q) hj
      · refine nm_r (nI_1 i) (ih (i + 1) (by omega) (by omega) ?_)
        intro j hj2
        by_cases e : j = i
        · rw [e]; exact q
        · exact hj j (by omega)
theorem xp_feq {post : Int32 → Prop} {n : Nat} {A : Nat → List Nat} {Z : Nat → Nat} (hS : tm_SG n A Z) (hg : sg_X (tm_sg n A Z) ay gs so) (hM : mm_M 49 86 T L m) (h48 : (m 0).length ≤ 48)
    (h1 : ∀ e, eq_Q (tm_sg n A Z) (m 0) e → post (nI e)) (h0 : (∀ e, ¬ eq_Q (tm_sg n A Z) (m 0) e) → post (-1)) : wpX_findEquation post (xn, xq, xa, xg, T, L, ay, gs, so, E, B, pv, vl, el) := by
  unfold wpX_findEquation
  dsimp only
  exact ⟨(m 0).length + 1, xl_feq hS hg hM h48 h1 h0 _ 0 (by omega) (Nat.zero_le _) (fun j hj => absurd hj (Nat.not_lt_zero _))⟩
end XB
end
section
/-! 12: the class: ends of subterms, matching, filling in, REPLACE -/
section XC
variable {xn xq xa xg : Int32} {T L ay gs so E B pv vl el : Nat → Int32} {m : Nat → List Nat} {g : tm_G}
theorem tm_mt_pos0 {g : tm_G} {pat : Bool} {w p : List Nat} {q : Nat} {r : Nat × (Nat → Option Nat)} (h : tm_mt g pat w p q (fun _ => none) = some r) : ∀ v q0, r.2 v = some q0 → q0 < w.length := tm_mt_pos p q (fun _ => none) r (fun _ _ z => nomatch z) h
def xe_E (g : tm_G) (w : List Nat) (E : Nat → Int32) : Prop := ∀ q, q < w.length → E q = nI (tm_e g w q)
theorem xl_mark52 {post : St1 → Prop} {J : Int32 → (Nat → Int32) → (Nat → Int32) → (Nat → Int32) → (Nat → Int32) → (Nat → Int32) → (Nat → Int32) → (Nat → Int32) → (Nat → Int32) → (Nat → Int32) → (Nat → Int32) → Prop} (hM : mm_M 49 86 T L m) {s i a : Nat} (hs : s < 86) (hi : i < (m s).length) (ha : tm_ar g (tm_at (m s) i) = a) (ha3 : a < 2 ^ 30) (hE : ∀ q, i < q → q < (m s).length → E q = nI (tm_e g (m s) q))
    (hJ : J (nI i + (-1)) T L ay gs so (upd E i (nI (tm_e g (m s) i))) B pv vl el) : ∀ n j, a < n + j → j ≤ a → wX_markSubterms_52 post J (nI s) (nI i) (nI a) xn xq xa xg T L ay gs so E B pv vl el n (nI (i + 1 + tm_en g j ((m s).drop (i + 1)))) (nI j) := by
  have hle := mm_le hM hs
  have hrec := tm_e_rec g hi
  rw [ha] at hrec
  intro n
  induction n with
  | zero => intro j h1 h2; omega
  | succ n ih =>
    intro j h1 h2
    have hen := tm_en_le g ((m s).drop (i + 1)) j
    rw [List.length_drop] at hen
    rw [wX_markSubterms_52]
    dsimp only
    rw [nI_clamp (n := i) (by omega), nI_clamp (n := s) (by omega), mm_len hM hs]
    refine pk_le a j (fun hge => ?_) (fun hlt => ?_)
    · have e : j = a := by omega
      subst e
      rw [← hrec]
      exact ⟨vp_in_nI (by omega) (by omega), nm_e (nm_e hJ)⟩
    · refine ⟨vp_in_nI hs (by omega), pk_le (m s).length _ (fun hge => ?_) (fun hl2 => ?_)⟩
      · have e : i + 1 + tm_en g j ((m s).drop (i + 1)) = tm_e g (m s) i := by
          rw [hrec, show a = j + (a - j) by omega, tm_en_add g _ j (a - j), List.drop_drop, List.drop_eq_nil_of_le hge, tm_en_nil]
          omega
        rw [e]
        exact ⟨vp_in_nI (by omega) (by omega), nm_e (nm_e hJ)⟩
      · refine ⟨vp_in_nI (by omega) (by omega), ?_⟩
        rw [nI_clamp (n := i + 1 + tm_en g j ((m s).drop (i + 1))) (by omega), hE _ (by omega) hl2]
        refine nm_e (nm_r (nI_1 j) ?_)
        rw [← tm_e_iter]
        exact ih (j + 1) (by omega) (by omega)
theorem xl_mark9 {post : St1 → Prop} (hg : sg_X g ay gs so) (hM : mm_M 49 86 T L m) {s : Nat} (hs : s < 86) (h3 : ∀ c, tm_ar g c < 2 ^ 30) (h : ∀ E', xe_E g (m s) E' → post (xn, xq, xa, xg, T, L, ay, gs, so, E', B, pv, vl, el)) :
    ∀ n j E, j < n → j ≤ (m s).length → (∀ q, j ≤ q → q < (m s).length → E q = nI (tm_e g (m s) q)) → wX_markSubterms_9 post (nI s) xn xq xa xg n (nI j - 1) T L ay gs so E B pv vl el := by
  have hle := mm_le hM hs
  intro n
  induction n with
  | zero => intro j E hj; omega
  | succ n ih =>
    intro j E hj hjl hE
    rw [wX_markSubterms_9]
    dsimp only
    by_cases hz : j = 0
    · subst hz
      refine br_t (by decide) (h E (fun q hq => hE q (Nat.zero_le _) hq))
    · obtain ⟨i, rfl⟩ : ∃ i, j = i + 1 := ⟨j - 1, by omega⟩
      rw [xi_m1']
      have hbb := mm_b hM hs i
      have hT := mm_t hM hs (i := i) (by omega)
      refine br_f (nI_pos (by omega)) ?_
      rw [xi_ix, nI_clamp (n := s * 49 + i) (by omega), hT]
      refine ⟨vp_in_nI (by omega) (by omega), nm_e (br_f (nI_ge (b := 256) hbb (by decide)) ⟨vp_in_nI hbb (by omega), ?_⟩)⟩
      rw [nI_clamp (n := tm_at (m s) i) (by omega)]
      have hJ : wX_markSubterms_9 post (nI s) xn xq xa xg n (nI i + (-1)) T L ay gs so (upd E i (nI (tm_e g (m s) i))) B pv vl el := by
        rw [← Int32.sub_eq_add_neg]
        refine ih i _ (by omega) (by omega) ?_
        intro q h1 h2
        by_cases e : q = i
        · rw [e, mm_us]
        · rw [mm_un e]
          exact hE q (by omega) h2
      rcases sg_X_ar hg hbb with e | ⟨e, e2, _⟩
      · rw [e]
        refine nm_e (nm_r (nI_1 i) ⟨tm_ar g (tm_at (m s) i) + 1, ?_⟩)
        have := xl_mark52 (post := post) (xn := xn) (xq := xq) (xa := xa) (xg := xg) hM hs (i := i) (by omega) rfl (h3 _) (fun q h1 h2 => hE q (by omega) h2) hJ (tm_ar g (tm_at (m s) i) + 1) 0 (by omega) (Nat.zero_le _)
        rw [tm_en_0, Nat.add_zero] at this
        exact this
      · rw [e]
        refine nm_e (nm_r (nI_1 i) ⟨1, ?_⟩)
        rw [wX_markSubterms_52]
        dsimp only
        have hrec := tm_e_rec g (w := m s) (q := i) (by omega)
        rw [e2, tm_en_0, Nat.add_zero] at hrec
        rw [hrec] at hJ
        refine br_t (by decide) ⟨vp_in_nI (by omega) (by omega), ?_⟩
        rw [nI_clamp (n := i) (by omega)]
        exact nm_e (nm_e hJ)
theorem xp_mark {post : St1 → Prop} (hg : sg_X g ay gs so) (hM : mm_M 49 86 T L m) {s : Nat} (hs : s < 86) (h3 : ∀ c, tm_ar g c < 2 ^ 30) (h : ∀ E', xe_E g (m s) E' → post (xn, xq, xa, xg, T, L, ay, gs, so, E', B, pv, vl, el)) : wpX_markSubterms post (xn, xq, xa, xg, T, L, ay, gs, so, E, B, pv, vl, el) (nI s) := by
  unfold wpX_markSubterms
  dsimp only
  rw [nI_clamp (n := s) (by omega), mm_len hM hs]
  refine ⟨vp_in_nI hs (by omega), nm_e ⟨(m s).length + 1, xl_mark9 hg hM hs h3 h _ (m s).length E (by omega) (Nat.le_refl _) ?_⟩⟩
  intro q h1 h2
  omega
theorem xl_same {post : Int32 → Prop} (hM : mm_M 49 86 T L m) {s p q z : Nat} (hs : s < 86) (hp : p + z ≤ (m s).length) (hq : q + z ≤ (m s).length) (h1 : (∀ j, j < z → tm_at (m s) (p + j) = tm_at (m s) (q + j)) → post 1) (h0 : ∀ j, j < z → tm_at (m s) (p + j) ≠ tm_at (m s) (q + j) → post 0) :
    ∀ n i, z < n + i → i ≤ z → (∀ j, j < i → tm_at (m s) (p + j) = tm_at (m s) (q + j)) → wX_sameSubterm_28 post (nI s) (nI p) (nI q) (nI z) xn xq xa xg T L ay gs so E B pv vl el n (nI i) := by
  have hle := mm_le hM hs
  intro n
  induction n with
  | zero => intro i a b; omega
  | succ n ih =>
    intro i a b hj
    rw [wX_sameSubterm_28]
    dsimp only
    refine pk_le z i (fun hge => ?_) (fun hlt => ?_)
    · exact h1 (fun j hj2 => hj j (by omega))
    · have c1 := mm_t hM hs (i := p + i) (by omega)
      have c2 := mm_t hM hs (i := q + i) (by omega)
      have b1 := mm_b hM hs (p + i)
      have b2 := mm_b hM hs (q + i)
      rw [xi_ix, xi_ix, nI_add, nI_add, Nat.add_assoc, Nat.add_assoc, nI_clamp (n := s * 49 + (p + i)) (by omega), nI_clamp (n := s * 49 + (q + i)) (by omega), c1, c2]
      refine ⟨vp_in_nI (by omega) (by omega), vp_in_nI (by omega) (by omega), pk_eq _ _ (fun e => ?_) (fun e => h0 i hlt e)⟩
      refine nm_r (nI_1 i) (ih (i + 1) (by omega) (by omega) ?_)
      intro j hj2
      by_cases q : j = i
      · rw [q]; exact e
      · exact hj j (by omega)
theorem xp_same {post : Int32 → Prop} (hM : mm_M 49 86 T L m) {s p q : Nat} (hs : s < 86) (hE : xe_E g (m s) E) (hp : p < (m s).length) (hq : q < (m s).length) (h1 : tm_sub g (m s) p = tm_sub g (m s) q → post 1) (h0 : tm_sub g (m s) p ≠ tm_sub g (m s) q → post 0) : wpX_sameSubterm post (xn, xq, xa, xg, T, L, ay, gs, so, E, B, pv, vl, el) (nI s) (nI p) (nI q) := by
  unfold wpX_sameSubterm
  dsimp only
  have hle := mm_le hM hs
  have p1 := tm_e_gt g hp
  have p2 := tm_e_le g (Nat.le_of_lt hp)
  have q1 := tm_e_gt g hq
  have q2 := tm_e_le g (Nat.le_of_lt hq)
  have l1 := tm_sub_len g (Nat.le_of_lt hp)
  have l2 := tm_sub_len g (Nat.le_of_lt hq)
  rw [nI_clamp (n := p) (by omega), nI_clamp (n := q) (by omega), hE p hp, hE q hq, pk_sub (by omega), pk_sub (by omega)]
  refine ⟨vp_in_nI (by omega) (by omega), nm_e ⟨vp_in_nI (by omega) (by omega), pk_eq _ _ (fun e => ?_) (fun e => h0 ?_)⟩⟩
  · refine ⟨tm_e g (m s) p - p + 1, xl_same hM hs (by omega) (by omega) (fun hj => h1 ?_) (fun j hj hn => h0 ?_) _ 0 (by omega) (Nat.zero_le _) (fun j hj => absurd hj (Nat.not_lt_zero _))⟩
    · apply tm_ext (by omega)
      intro j hj2
      rw [tm_sub_at g (by omega), tm_sub_at g (by omega)]
      exact hj j (by omega)
    · intro z
      apply hn
      rw [← tm_sub_at g (w := m s) (q := p) (by omega), ← tm_sub_at g (w := m s) (q := q) (by omega), z]
  · intro z
    have := congrArg List.length z
    omega
theorem xl_match {post : Int32 → St1 → Prop} (hM : mm_M 49 86 T L m) {s f : Nat} {pat : Bool} {px : Int32} (hs : s < 86) (hf : f < 86) (hE : xe_E g (m s) E) (hp : (pat = true ∧ ¬ px = 0) ∨ (pat = false ∧ px = 0)) :
    ∀ n j q B b, (m f).length < n + j → j ≤ (m f).length → q ≤ (m s).length → rb_X B b → (∀ v q0, b v = some q0 → q0 < (m s).length) →
      (∀ r B', tm_mt g pat (m s) ((m f).drop j) q b = some r → rb_X B' r.2 → post 1 (xn, xq, xa, xg, T, L, ay, gs, so, E, B', pv, vl, el)) → (∀ B', tm_mt g pat (m s) ((m f).drop j) q b = none → post 0 (xn, xq, xa, xg, T, L, ay, gs, so, E, B', pv, vl, el)) → wX_matchesAt_30 post (nI f) (nI s) px xn xq xa xg n (nI q) (nI j) T L ay gs so E B pv vl el := by
  have hls := mm_le hM hs
  have hlf := mm_le hM hf
  intro n
  induction n with
  | zero => intro j q B b h1 h2; omega
  | succ n ih =>
    intro j q B b h1 h2 h3 hB hb hy hn
    rw [wX_matchesAt_30]
    dsimp only
    rw [nI_clamp (n := f) (by omega), nI_clamp (n := s) (by omega), mm_len hM hf, mm_len hM hs]
    refine ⟨vp_in_nI hf (by omega), pk_le (m f).length j (fun hge => ?_) (fun hlt => ⟨vp_in_nI hs (by omega), pk_lt q (m s).length (fun hq => ?_) (fun hq => ?_)⟩)⟩
    · refine hy (q, b) B ?_ hB
      rw [List.drop_eq_nil_of_le hge]
      exact tm_mt_nil
    · have hbp := mm_b hM hf j
      have hbs := mm_b hM hs q
      have hT := mm_t hM hs hq
      rw [tm_drop_cons hlt] at hy hn
      have hsym : ∀ (_ : pat = false ∨ tm_vn (tm_at (m f) j) = none), wX_matchesAt_77 post (wX_matchesAt_30 post (nI f) (nI s) px xn xq xa xg n) (nI f) (nI s) px (nI q) (nI j) (nI (tm_at (m f) j)) (-1) xn xq xa xg T L ay gs so E B pv vl el := by
        intro hv
        rw [tm_mt_sym hq hv] at hy hn
        unfold wX_matchesAt_77
        rw [xi_ix, nI_clamp (n := s * 49 + q) (by omega), hT]
        refine br_t (by decide) ⟨vp_in_nI (by omega) (by omega), pk_eq _ _ (fun e => ?_) (fun e => ?_)⟩
        · rw [if_pos e] at hy hn
          exact nm_r (nI_1 q) (nm_r (nI_1 j) (ih (j + 1) (q + 1) B b (by omega) (by omega) (by omega) hB hb hy hn))
        · rw [if_neg e] at hn
          exact hn B rfl
      refine xp_sym hM hf (by omega) ?_
      rcases hp with ⟨hp1, hp2⟩ | ⟨hp1, hp2⟩
      · subst hp1
        refine br_f hp2 ?_
        refine xp_vnum (by omega) (fun v hv hv16 => ?_) (fun hv => hsym (Or.inr hv))
        have h125 : ∀ (B2 : Nat → Int32) (b2 : Nat → Option Nat), rb_X B2 b2 → (∀ v q0, b2 v = some q0 → q0 < (m s).length) → tm_mt g true (m s) (tm_at (m f) j :: (m f).drop (j + 1)) q b = tm_mt g true (m s) ((m f).drop (j + 1)) (tm_e g (m s) q) b2 →
            wX_matchesAt_125 post (wX_matchesAt_30 post (nI f) (nI s) px xn xq xa xg n) (nI f) (nI s) px (nI q) (nI j) xn xq xa xg T L ay gs so E B2 pv vl el := by
          intro B2 b2 hB2 hb2 he
          rw [he] at hy hn
          unfold wX_matchesAt_125
          rw [nI_clamp (n := q) (by omega), hE q hq]
          exact ⟨vp_in_nI (by omega) (by omega), nm_e (nm_r (nI_1 j) (ih (j + 1) _ B2 b2 (by omega) (by omega) (tm_e_le g h3) hB2 hb2 hy hn))⟩
        show wX_matchesAt_77 _ _ _ _ _ _ _ _ (nI v) _ _ _ _ _ _ _ _ _ _ _ _ _ _
        unfold wX_matchesAt_77
        rw [nI_clamp (n := v) (by omega)]
        refine br_f (nI_pos (by omega)) ⟨vp_in_nI hv16 (by omega), ?_⟩
        cases hbv : b v with
        | none =>
          rw [(hB v hv16).1 hbv]
          refine br_f (by decide) ⟨vp_in_nI hv16 (by omega), nm_e ?_⟩
          refine h125 _ (tm_bu b v q) (rb_X_up hB) ?_ (tm_mt_new hq hv hbv)
          intro v2 q0 h
          unfold tm_bu at h
          by_cases e : v2 = v
          · rw [if_pos e] at h
            rw [← Option.some.inj h]
            exact hq
          · rw [if_neg e] at h
            exact hb v2 q0 h
        | some q0 =>
          have hq0 := hb v q0 hbv
          rw [(hB v hv16).2 q0 hbv]
          refine br_t (nI_pos' (by omega)) ⟨vp_in_nI hv16 (by omega), ?_⟩
          have ho := tm_mt_old (g := g) (w := m s) (p := (m f).drop (j + 1)) (b := b) hq hv hbv
          refine xp_same hM hs hE hq0 hq (fun e => ?_) (fun e => ?_)
          · rw [if_pos e] at ho
            exact br_f (by decide) (h125 B b hB hb ho)
          · rw [if_neg e] at ho
            exact br_t rfl (hn B ho)
      · exact br_t hp2 (hsym (Or.inl hp1))
    · refine hn B ?_
      rw [tm_drop_cons hlt]
      exact tm_mt_out hq
theorem xl_match3 {post : Int32 → St1 → Prop} {x1 x2 x3 x4 : Int32} (h : ∀ B', rb_X B' (fun _ => none) → ∃ n, wX_matchesAt_30 post x1 x2 x4 xn xq xa xg n x3 0 T L ay gs so E B' pv vl el) : ∀ n i B, 16 < n + i → i ≤ 16 → (∀ v, v < i → B v = -1) → wX_matchesAt_3 post x1 x2 x3 x4 xn xq xa xg n (nI i) T L ay gs so E B pv vl el := by
  intro n
  induction n with
  | zero => intro i B a b; omega
  | succ n ih =>
    intro i B a b hB
    rw [wX_matchesAt_3]
    dsimp only
    refine pk_le 16 i (fun hge => ?_) (fun hlt => ?_)
    · exact h B (fun v hv => ⟨fun _ => hB v (by omega), fun q0 z => nomatch z⟩)
    · rw [nI_clamp (n := i) (by omega)]
      refine ⟨vp_in_nI hlt (by omega), nm_e (nm_r (nI_1 i) (ih (i + 1) _ (by omega) (by omega) ?_))⟩
      intro v hv
      by_cases e : v = i
      · rw [e, mm_us]
      · rw [mm_un e]
        exact hB v (by omega)
theorem xp_match {post : Int32 → St1 → Prop} (hM : mm_M 49 86 T L m) {s f i : Nat} {pat : Bool} {px : Int32} (hs : s < 86) (hf : f < 86) (hE : xe_E g (m s) E) (hp : (pat = true ∧ ¬ px = 0) ∨ (pat = false ∧ px = 0)) (hi : i ≤ (m s).length)
    (hy : ∀ r B', tm_mt g pat (m s) (m f) i (fun _ => none) = some r → rb_X B' r.2 → post 1 (xn, xq, xa, xg, T, L, ay, gs, so, E, B', pv, vl, el)) (hn : ∀ B', tm_mt g pat (m s) (m f) i (fun _ => none) = none → post 0 (xn, xq, xa, xg, T, L, ay, gs, so, E, B', pv, vl, el)) : wpX_matchesAt post (xn, xq, xa, xg, T, L, ay, gs, so, E, B, pv, vl, el) (nI f) (nI s) (nI i) px := by
  unfold wpX_matchesAt
  dsimp only
  refine ⟨17, xl_match3 ?_ 17 0 B (by omega) (by omega) (fun v hv => absurd hv (Nat.not_lt_zero _))⟩
  intro B' hB'
  refine ⟨(m f).length + 1, xl_match hM hs hf hE hp _ 0 i B' (fun _ => none) (by omega) (Nat.zero_le _) hi hB' (fun _ _ z => nomatch z) ?_ ?_⟩
  · rw [List.drop_zero]
    exact hy
  · rw [List.drop_zero]
    exact hn
theorem xi_sub (g : tm_G) (w : List Nat) (q : Nat) : (w.drop q).take (tm_e g w q - q) = tm_sub g w q := by
  unfold tm_e tm_sub
  rw [Nat.add_sub_cancel_left]
theorem xl_inst {post : St1 → Prop} {t s p : Nat} (ht : t < 86) (hs : s < 86) (hp : p < 86) (hst : s ≠ t) (hpt : p ≠ t) (hE : xe_E g (m s) E) {b : Nat → Option Nat} (hB : rb_X B b) (hb : ∀ v q0, b v = some q0 → q0 < (m s).length) :
    ∀ n j T L m', (m p).length < n + j → j ≤ (m p).length → m' s = m s → m' p = m p → mm_M 49 86 T L m' → (∀ T' L', mm_M 49 86 T' L' (mm_set m' t ((m' t ++ tm_in g (m s) b ((m p).drop j)).take 49)) → post (xn, xq, xa, xg, T', L', ay, gs, so, E, B, pv, vl, el)) → wX_copyInstance_3 post (nI t) (nI p) (nI s) n (nI j) xn xq xa xg T L ay gs so E B pv vl el := by
  intro n
  induction n with
  | zero => intro j T L m' a b; omega
  | succ n ih =>
    intro j T L m' h1 h2 hms hmp hM h
    have hlp := mm_le hM hp
    have hls := mm_le hM hs
    have hlt := mm_le hM ht
    rw [hmp] at hlp
    rw [hms] at hls
    rw [wX_copyInstance_3]
    dsimp only
    rw [nI_clamp (n := p) (by omega), mm_len hM hp, hmp]
    refine ⟨vp_in_nI hp (by omega), pk_le (m p).length j (fun hge => ?_) (fun hlt2 => ?_)⟩
    · apply h
      rw [List.drop_eq_nil_of_le hge]
      show mm_M 49 86 T L (mm_set m' t ((m' t ++ []).take 49))
      rw [List.append_nil, mm_tl hlt, mm_set_self]
      exact hM
    · rw [tm_drop_cons hlt2] at h
      have hbb := mm_b hM hp j
      refine xp_sym hM hp (by omega) ?_
      rw [hmp]
      rw [hmp] at hbb
      have hnext : ∀ (u : List Nat) T' L', tm_i1 g (m s) b (tm_at (m p) j) = u → mm_M 49 86 T' L' (mm_set m' t ((m' t ++ u).take 49)) → wX_copyInstance_3 post (nI t) (nI p) (nI s) n (nI j + 1) xn xq xa xg T' L' ay gs so E B pv vl el := by
        intro u T' L' hu hM'
        rw [nI_1]
        refine ih (j + 1) T' L' _ (by omega) (by omega) ?_ ?_ hM' ?_
        · rw [mm_set_n hst, hms]
        · rw [mm_set_n hpt, hmp]
        · intro T2 L2 hM2
          apply h
          rw [mm_set_s, mm_set_set, mm_tt, List.append_assoc] at hM2
          show mm_M 49 86 T2 L2 (mm_set m' t ((m' t ++ (tm_i1 g (m s) b (tm_at (m p) j) ++ tm_in g (m s) b ((m p).drop (j + 1)))).take 49))
          rw [hu]
          exact hM2
      have happ : tm_i1 g (m s) b (tm_at (m p) j) = [tm_at (m p) j] → wX_copyInstance_46 post (wX_copyInstance_3 post (nI t) (nI p) (nI s) n) (nI t) (nI p) (nI s) (nI j) (nI (tm_at (m p) j)) (-1) xn xq xa xg T L ay gs so E B pv vl el := by
        intro hu
        unfold wX_copyInstance_46
        refine br_f (by decide) ?_
        exact xp_append hM ht hbb (fun T' L' hM' => nm_e (hnext _ T' L' hu hM'))
      refine xp_vnum (by omega) (fun v hv hv16 => ?_) (fun hv => ?_)
      · refine br_t (nI_pos' (by omega)) ⟨vp_in_nI hv16 (by omega), ?_⟩
        rw [nI_clamp (n := v) (by omega)]
        cases hbv : b v with
        | none =>
          rw [(hB v hv16).1 hbv]
          exact happ (tm_i1_u hv hbv)
        | some q0 =>
          have hq0 := hb v q0 hbv
          rw [(hB v hv16).2 q0 hbv]
          unfold wX_copyInstance_46
          rw [nI_clamp (n := q0) (by omega), hE q0 hq0]
          refine br_t (nI_pos' (by omega)) ⟨vp_in_nI (by omega) (by omega), ?_⟩
          have e1 := tm_e_gt g hq0
          have e2 := tm_e_le g (Nat.le_of_lt hq0)
          refine xp_copySpan hM ht hs hst (by rw [hms]; exact e2) (by omega) (fun T' L' hM' => nm_e (hnext _ T' L' (tm_i1_b hv hbv) ?_))
          rw [hms, xi_sub] at hM'
          exact hM'
      · exact br_f (by decide) (happ (tm_i1_n hv))
theorem xp_inst {post : St1 → Prop} (hM : mm_M 49 86 T L m) {t s p : Nat} (ht : t < 86) (hs : s < 86) (hp : p < 86) (hst : s ≠ t) (hpt : p ≠ t) (hE : xe_E g (m s) E) {b : Nat → Option Nat} (hB : rb_X B b) (hb : ∀ v q0, b v = some q0 → q0 < (m s).length)
    (h : ∀ T' L', mm_M 49 86 T' L' (mm_set m t ((m t ++ tm_in g (m s) b (m p)).take 49)) → post (xn, xq, xa, xg, T', L', ay, gs, so, E, B, pv, vl, el)) : wpX_copyInstance post (xn, xq, xa, xg, T, L, ay, gs, so, E, B, pv, vl, el) (nI t) (nI p) (nI s) := by
  unfold wpX_copyInstance
  dsimp only
  refine ⟨(m p).length + 1, xl_inst (m := m) ht hs hp hst hpt hE hB hb _ 0 T L m (by omega) (Nat.zero_le _) rfl rfl hM ?_⟩
  rw [List.drop_zero]
  exact h
theorem xl_repl {post : Int32 → St1 → Prop} {s t f p : Nat} {pat : Bool} {px : Int32} (hs : s < 86) (ht : t < 86) (hf : f < 86) (hp : p < 86) (hst : s ≠ t) (hft : f ≠ t) (hpt : p ≠ t) (hE : xe_E g (m s) E) (hpx : (pat = true ∧ ¬ px = 0) ∨ (pat = false ∧ px = 0)) (hl49 : (m s).length ≤ 49) :
    ∀ n i nx pp hits acc T L B, (m s).length < n + i → i ≤ (m s).length → ((i < nx ∧ nx ≤ (m s).length ∧ pp = nx) ∨ (nx ≤ i ∧ pp = i)) → hits ≤ i → mm_M 49 86 T L (mm_set m t (acc.take 49)) →
      (∀ T' L' B', mm_M 49 86 T' L' (mm_set m t ((acc ++ (tm_R g pat (m s) (m f) (m p) pp).2).take 49)) → post (nI (hits + (tm_R g pat (m s) (m f) (m p) pp).1)) (xn, xq, xa, xg, T', L', ay, gs, so, E, B', pv, vl, el)) → wX_replaceAll_21 post (nI s) (nI t) (nI f) (nI p) px n (nI hits) (nI nx) (nI i) xn xq xa xg T L ay gs so E B pv vl el := by
  intro n
  induction n with
  | zero => intro i nx pp hits acc T L B a b; omega
  | succ n ih =>
    intro i nx pp hits acc T L B h1 h2 hc hh hM h
    have es : mm_set m t (acc.take 49) s = m s := mm_set_n hst
    have ef : mm_set m t (acc.take 49) f = m f := mm_set_n hft
    have ep : mm_set m t (acc.take 49) p = m p := mm_set_n hpt
    rw [wX_replaceAll_21]
    dsimp only
    rw [nI_clamp (n := s) (by omega), mm_len hM hs, es]
    refine ⟨vp_in_nI hs (by omega), pk_le (m s).length i (fun hge => ?_) (fun hlt => ?_)⟩
    · have e : (m s).length ≤ pp := by omega
      rw [tm_R_out e, List.append_nil] at h
      exact h T L B hM
    · refine pk_le nx i (fun hge => ?_) (fun hlt2 => ?_)
      · have epp : pp = i := by omega
        subst epp
        refine xp_match (m := mm_set m t (acc.take 49)) (g := g) (pat := pat) hM hs hf (by rw [es]; exact hE) hpx (by rw [es]; omega) ?_ ?_
        · rw [es, ef]
          intro r B' hm hB'
          rw [tm_R_hit hlt hm] at h
          refine br_f (by decide) (nm_r (nI_1 hits) ?_)
          refine xp_inst (m := mm_set m t (acc.take 49)) hM ht hs hp hst hpt (by rw [es]; exact hE) hB' ?_ ?_
          · rw [es]
            exact tm_mt_pos0 hm
          · intro T' L' hM'
            rw [mm_set_s, mm_set_set, mm_tt, es, ep] at hM'
            have e1 := tm_e_gt g hlt
            have e2 := tm_e_le g (Nat.le_of_lt hlt)
            refine ⟨vp_in_nI (by omega) (by omega), ?_⟩
            dsimp only
            rw [nI_clamp (n := pp) (by omega), hE pp hlt]
            refine nm_e (nm_r (nI_1 pp) (ih (pp + 1) _ (tm_e g (m s) pp) (hits + 1) _ T' L' B' (by omega) (by omega) ?_ (by omega) hM' ?_))
            · by_cases q : pp + 1 < tm_e g (m s) pp
              · exact Or.inl ⟨q, e2, rfl⟩
              · exact Or.inr ⟨by omega, by omega⟩
            · intro T2 L2 B2 hM2
              rw [List.append_assoc] at hM2
              have := h T2 L2 B2 hM2
              rw [show hits + ((tm_R g pat (m s) (m f) (m p) (tm_e g (m s) pp)).1 + 1) = hits + 1 + (tm_R g pat (m s) (m f) (m p) (tm_e g (m s) pp)).1 by omega] at this
              exact this
        · rw [es, ef]
          intro B' hm
          rw [tm_R_miss hlt hm] at h
          refine br_t rfl ?_
          show wpX_copySpan _ _ _ _ (nI pp) (nI pp + 1)
          rw [nI_1]
          refine xp_copySpan (m := mm_set m t (acc.take 49)) hM ht hs hst (by rw [es]; omega) (by omega) (fun T' L' hM' => nm_e (ih (pp + 1) nx (pp + 1) hits (acc ++ [tm_at (m s) pp]) T' L' B' (by omega) (by omega) (Or.inr ⟨by omega, rfl⟩) (by omega) ?_ ?_))
          · rw [mm_set_s, mm_set_set, mm_tt, es, show pp + 1 - pp = 1 by omega, tm_drop_cons hlt, List.take_succ_cons, List.take_zero] at hM'
            exact hM'
          · intro T2 L2 B2 hM2
            rw [List.append_assoc] at hM2
            exact h T2 L2 B2 hM2
      · refine nm_r (nI_1 i) (ih (i + 1) nx pp hits acc T L B (by omega) (by omega) ?_ (by omega) hM h)
        by_cases q : i + 1 < nx
        · exact Or.inl ⟨q, by omega, by omega⟩
        · exact Or.inr ⟨by omega, by omega⟩
theorem xp_repl {post : Int32 → St1 → Prop} (hg : sg_X g ay gs so) (h3 : ∀ c, tm_ar g c < 2 ^ 30) (hM : mm_M 49 86 T L m) {s t f p : Nat} {pat : Bool} {px : Int32} (hs : s < 86) (ht : t < 86) (hf : f < 86) (hp : p < 86) (hst : s ≠ t) (hft : f ≠ t) (hpt : p ≠ t) (hpx : (pat = true ∧ ¬ px = 0) ∨ (pat = false ∧ px = 0))
    (h : ∀ T' L' E' B', mm_M 49 86 T' L' (mm_set m t ((tm_R g pat (m s) (m f) (m p) 0).2.take 49)) → post (nI (tm_R g pat (m s) (m f) (m p) 0).1) (xn, xq, xa, xg, T', L', ay, gs, so, E', B', pv, vl, el)) : wpX_replaceAll post (xn, xq, xa, xg, T, L, ay, gs, so, E, B, pv, vl, el) (nI s) (nI t) (nI f) (nI p) px := by
  unfold wpX_replaceAll
  dsimp only
  refine xp_mark hg hM hs h3 (fun E' hE' => ?_)
  rw [nI_clamp (n := t) (by omega)]
  refine ⟨vp_in_nI ht (by omega), nm_e ⟨(m s).length + 1, ?_⟩⟩
  refine xl_repl (m := m) (g := g) (pat := pat) hs ht hf hp hst hft hpt hE' hpx (mm_le hM hs) _ 0 0 0 0 [] T _ B (by omega) (Nat.zero_le _) (Or.inr ⟨Nat.le_refl _, rfl⟩) (Nat.le_refl _) (mm_nil hM ht) ?_
  intro T' L' B' hM'
  rw [Nat.zero_add]
  exact h T' L' E' B' hM'
end XC
end
section
/-! 13: the class: rules, fresh variables, NORMALIZE -/
section XD
variable {xn xq xa xg : Int32} {T L ay gs so E B pv vl el : Nat → Int32} {m : Nat → List Nat} {g : tm_G}
def rc_n (R : Nat → List Nat) (c : Nat) : Nat := (if R (4 * (c - 70)) = [] then 0 else 1) + (if R (4 * (c - 70) + 2) = [] then 0 else 1)
theorem rc_2 {R : Nat → List Nat} {c : Nat} : rc_n R c = 2 ↔ tm_cp R c := by
  unfold rc_n tm_cp
  by_cases h1 : R (4 * (c - 70)) = []
  · rw [if_pos h1]
    constructor
    · intro h
      split at h <;> omega
    · exact fun h => absurd h1 h.1
  · rw [if_neg h1]
    by_cases h2 : R (4 * (c - 70) + 2) = []
    · rw [if_pos h2]
      exact ⟨fun h => absurd h (by decide), fun h => absurd h2 h.2⟩
    · rw [if_neg h2]
      exact ⟨fun _ => ⟨h1, h2⟩, fun _ => rfl⟩
theorem rc_le (R : Nat → List Nat) (c : Nat) : rc_n R c ≤ 2 := by
  unfold rc_n
  split <;> split <;> omega
theorem xi_slot {c : Nat} (h : tm_fn c) : (17 : Int32) + 4 * (nI c - 70) = nI (17 + 4 * (c - 70)) := by
  rw [show nI c - 70 = nI (c - 70) from pk_sub (b := 70) h.1, show (4 : Int32) * nI (c - 70) = nI (4 * (c - 70)) from pk_mul 4 _]
  exact nI_add 17 _
theorem xp_single {post : Int32 → Prop} (hM : mm_M 49 86 T L m) {s : Nat} (hs : s < 86) (h1 : (m s).length = 1 → tm_vn (tm_at (m s) 0) ≠ none → post 1) (h0 : ¬ ((m s).length = 1 ∧ tm_vn (tm_at (m s) 0) ≠ none) → post 0) : wpX_isSingleVariable post (xn, xq, xa, xg, T, L, ay, gs, so, E, B, pv, vl, el) (nI s) := by
  unfold wpX_isSingleVariable
  dsimp only
  have hb := mm_b hM hs 0
  have hle := mm_le hM hs
  refine xp_sym (i := 0) hM hs (by omega) ?_
  rw [nI_clamp (n := s) (by omega), mm_len hM hs]
  refine ⟨vp_in_nI hs (by omega), pk_eq (m s).length 1 (fun e => ?_) (fun e => h0 (fun z => e z.1))⟩
  refine xp_vnum (by omega) (fun v hv hv16 => br_f (nI_pos (by omega)) (h1 e (by rw [hv]; exact Option.some_ne_none v))) (fun hv => br_t (by decide) (h0 (fun z => z.2 hv)))
theorem xp_rcount {post : Int32 → Prop} (hM : mm_M 49 86 T L m) {c : Nat} (hc : c < 65536) (h1 : tm_fn c → post (nI (rc_n (iv_R m) c))) (h0 : ¬ tm_fn c → post 0) : wpX_ruleCount post (xn, xq, xa, xg, T, L, ay, gs, so, E, B, pv, vl, el) (nI c) := by
  unfold wpX_ruleCount
  dsimp only
  refine xp_isf hc (fun hf => br_f (by decide) ?_) (fun hf => br_t rfl (h0 hf))
  rw [xi_slot hf]
  refine nm_e ⟨vp_in_nI (by omega) (by omega), ?_⟩
  have e1 : 17 + 4 * (c - 70) < 86 := by omega
  have l1 := mm_le hM e1
  have e2 : 17 + (4 * (c - 70) + 2) < 86 := by omega
  have l2 := mm_le hM e2
  rw [nI_clamp (n := 17 + 4 * (c - 70)) (by omega), mm_len hM e1]
  have h33 : ∀ k : Nat, k < 2 → (k = if iv_R m (4 * (c - 70)) = [] then 0 else 1) → wX_ruleCount_33 post (nI (17 + 4 * (c - 70))) (nI k) xn xq xa xg T L ay gs so E B pv vl el := by
    intro k hk ek
    unfold wX_ruleCount_33
    rw [show nI (17 + 4 * (c - 70)) + 2 = nI (17 + (4 * (c - 70) + 2)) from by rw [← Nat.add_assoc]; exact nI_add _ 2]
    rw [nI_clamp (n := 17 + (4 * (c - 70) + 2)) (by omega), mm_len hM e2]
    refine ⟨vp_in_nI e2 (by omega), pk_le (m (17 + (4 * (c - 70) + 2))).length 0 (fun z => ?_) (fun z => ?_)⟩
    · have hr : rc_n (iv_R m) c = k + 0 := by
        unfold rc_n
        rw [← ek, if_pos (show iv_R m (4 * (c - 70) + 2) = [] from List.eq_nil_of_length_eq_zero (show (m (17 + (4 * (c - 70) + 2))).length = 0 by omega))]
      have := h1 hf
      rw [hr, ← nI_add] at this
      exact this
    · have hr : rc_n (iv_R m) c = k + 1 := by
        unfold rc_n
        rw [← ek, if_neg (show ¬ iv_R m (4 * (c - 70) + 2) = [] from fun y => by
          have y' : (m (17 + (4 * (c - 70) + 2))).length = 0 := congrArg List.length y
          omega)]
      have := h1 hf
      rw [hr, ← nI_add] at this
      exact this
  refine pk_le (m (17 + 4 * (c - 70))).length 0 (fun z => h33 0 (by omega) ?_) (fun z => h33 1 (by omega) ?_)
  · rw [if_pos (show iv_R m (4 * (c - 70)) = [] from List.eq_nil_of_length_eq_zero (show (m (17 + 4 * (c - 70))).length = 0 by omega))]
  · rw [if_neg (show ¬ iv_R m (4 * (c - 70)) = [] from fun y => by
      have y' : (m (17 + 4 * (c - 70))).length = 0 := congrArg List.length y
      omega)]
theorem xp_top {post : Int32 → Prop} {ng : Nat} (h0 : 1 ≤ ng) (h8 : ng ≤ 8) (h : post (nI (49 + 4 * (ng - 1)))) : wpX_topGoal post (xn, xq, xa, nI ng, T, L, ay, gs, so, E, B, pv, vl, el) := by
  unfold wpX_topGoal
  dsimp only
  refine br_f (nI_nle (by omega) (by omega)) ?_
  rw [xi_m1 h0, show (4 : Int32) * nI (ng - 1) = nI (4 * (ng - 1)) from pk_mul 4 _, show (49 : Int32) + nI (4 * (ng - 1)) = nI (49 + 4 * (ng - 1)) from nI_add 49 _]
  exact h
def fr_l (p : Nat → Prop) (lo v : Nat) : Prop := lo ≤ v ∧ v < lo + 8 ∧ ¬ p v ∧ ∀ u, lo ≤ u → u < v → p u
theorem fr_u {p : Nat → Prop} {lo v v' : Nat} (h : fr_l p lo v) (h' : fr_l p lo v') : v = v' := by
  apply Nat.le_antisymm
  · apply Nat.le_of_not_lt
    intro z
    exact h'.2.2.1 (h.2.2.2 v' h'.1 z)
  · apply Nat.le_of_not_lt
    intro z
    exact h.2.2.1 (h'.2.2.2 v h.1 z)
theorem xl_fresh {post : Int32 → Prop} {k lo : Nat} {p : Nat → Prop} (hk : vz_S k p) (hlo : lo ≤ 8) (h1 : ∀ v, fr_l p lo v → post (nI v)) (h0 : (∀ v, lo ≤ v → v < lo + 8 → p v) → post (-1)) : ∀ n v, lo + 8 < n + v → lo ≤ v → v ≤ lo + 8 → (∀ u, lo ≤ u → u < v → p u) → wX_freshVariable_51 post (nI k) (nI lo) xn xq xa xg T L ay gs so E B pv vl el n (nI v) := by
  intro n
  induction n with
  | zero => intro v a b c; omega
  | succ n ih =>
    intro v a b c hu
    rw [wX_freshVariable_51]
    dsimp only
    rw [show nI lo + 8 = nI (lo + 8) from nI_add lo 8]
    refine pk_le (lo + 8) v (fun hge => h0 (fun u u1 u2 => hu u u1 (by omega))) (fun hlt => ?_)
    obtain ⟨b0, b1⟩ := vz_S_bit hk (v := v) (by omega)
    by_cases hp : p v
    · refine br_f (fun z => b0.mp z hp) (nm_r (nI_1 v) (ih (v + 1) (by omega) (by omega) (by omega) ?_))
      intro u u1 u2
      by_cases e : u = v
      · rw [e]; exact hp
      · exact hu u u1 (by omega)
    · exact br_t (b0.mpr hp) (h1 v ⟨b, hlt, hp, hu⟩)
theorem xp_fresh {post : Int32 → Prop} (hM : mm_M 49 86 T L m) {ng sv : Nat} (hg0 : 1 ≤ ng) (hg8 : ng ≤ 8) (hsv : sv < 2) (h1 : ∀ v, fr_l (fun v => tm_vc v ∈ m (49 + 4 * (ng - 1)) ∨ tm_vc v ∈ m (49 + 4 * (ng - 1) + 1) ∨ tm_vc v ∈ m (49 + 4 * (ng - 1) + 2) ∨ tm_vc v ∈ m (49 + 4 * (ng - 1) + 3)) (8 * sv) v → post (nI v))
    (h0 : (∀ v, 8 * sv ≤ v → v < 8 * sv + 8 → tm_vc v ∈ m (49 + 4 * (ng - 1)) ∨ tm_vc v ∈ m (49 + 4 * (ng - 1) + 1) ∨ tm_vc v ∈ m (49 + 4 * (ng - 1) + 2) ∨ tm_vc v ∈ m (49 + 4 * (ng - 1) + 3)) → post (-1)) : wpX_freshVariable post (xn, xq, xa, nI ng, T, L, ay, gs, so, E, B, pv, vl, el) (nI sv) := by
  unfold wpX_freshVariable
  dsimp only
  refine xp_top hg0 hg8 ?_
  refine xp_varsOf hM (by omega) (fun k1 s1 => ?_)
  rw [show nI (49 + 4 * (ng - 1)) + 1 = nI (49 + 4 * (ng - 1) + 1) from nI_1 _]
  refine xp_varsOf hM (by omega) (fun k2 s2 => ?_)
  rw [show nI (49 + 4 * (ng - 1)) + 2 = nI (49 + 4 * (ng - 1) + 2) from nI_add _ 2]
  refine xp_varsOf hM (by omega) (fun k3 s3 => ?_)
  rw [show nI (49 + 4 * (ng - 1)) + 3 = nI (49 + 4 * (ng - 1) + 3) from nI_add _ 3]
  refine xp_varsOf hM (by omega) (fun k4 s4 => ?_)
  refine nm_r (show ((nI k1 ||| nI k2) ||| nI k3) ||| nI k4 = nI (((k1 ||| k2) ||| k3) ||| k4) by rw [vz_or, vz_or, vz_or]) ?_
  have hk := vz_S_iff (q := fun v => tm_vc v ∈ m (49 + 4 * (ng - 1)) ∨ tm_vc v ∈ m (49 + 4 * (ng - 1) + 1) ∨ tm_vc v ∈ m (49 + 4 * (ng - 1) + 2) ∨ tm_vc v ∈ m (49 + 4 * (ng - 1) + 3)) (fun v _ => by
    constructor
    · rintro (((a | a) | a) | a)
      · exact Or.inl a
      · exact Or.inr (Or.inl a)
      · exact Or.inr (Or.inr (Or.inl a))
      · exact Or.inr (Or.inr (Or.inr a))
    · rintro (a | a | a | a)
      · exact Or.inl (Or.inl (Or.inl a))
      · exact Or.inl (Or.inl (Or.inr a))
      · exact Or.inl (Or.inr a)
      · exact Or.inr a) (vz_S_or (vz_S_or (vz_S_or s1 s2) s3) s4)
  have e : sv = 0 ∨ sv = 1 := by omega
  rcases e with rfl | rfl
  · exact br_t rfl ⟨9, xl_fresh (lo := 0) hk (by omega) h1 h0 9 0 (by omega) (by omega) (by omega) (fun u a b => absurd b (Nat.not_lt_zero _))⟩
  · exact br_f (by decide) ⟨9, xl_fresh (lo := 8) hk (by omega) h1 h0 9 8 (by omega) (by omega) (by omega) (fun u a b => absurd b (by omega))⟩
theorem tm_rx_last {w : List Nat} {n : Nat} (h : w.length = n + 1) : tm_rx w (n + 1) = tm_rx w n := by
  rw [tm_rx, if_neg]
  intro z
  have := tm_rd_lt z
  omega
theorem xl_redex {post : Int32 → Prop} (hM : mm_M 49 86 T L m) {s : Nat} (hs : s < 86) : ∀ n j, j < n → j ≤ (m s).length → (∀ i, tm_rx (m s) j = some i → post (nI i)) → (tm_rx (m s) j = none → post (-1)) → wX_lastRedex_9 post (nI s) xn xq xa xg T L ay gs so E B pv vl el n (nI j - 1) := by
  have hle := mm_le hM hs
  intro n
  induction n with
  | zero => intro j a; omega
  | succ n ih =>
    intro j a b h1 h0
    rw [wX_lastRedex_9]
    dsimp only
    by_cases hz : j = 0
    · subst hz
      exact br_t (by decide) (h0 rfl)
    · obtain ⟨i, rfl⟩ : ∃ i, j = i + 1 := ⟨j - 1, by omega⟩
      rw [xi_m1']
      rw [tm_rx] at h1 h0
      have b1 := mm_b hM hs i
      have b2 := mm_b hM hs (i + 1)
      have hnext : ¬ tm_rd (m s) i → wX_lastRedex_9 post (nI s) xn xq xa xg T L ay gs so E B pv vl el n (nI i + (-1)) := by
        intro hn
        rw [if_neg hn] at h1 h0
        rw [← Int32.sub_eq_add_neg]
        exact ih i (by omega) (by omega) h1 h0
      refine br_f (nI_pos (by omega)) ?_
      refine xp_sym hM hs (by omega) ?_
      rw [nI_1]
      refine xp_sym hM hs (by omega) ?_
      refine xp_isf (by omega) (fun hf => br_f (by decide) ?_) (fun hf => br_t rfl (nm_e (hnext (fun z => hf z.1))))
      refine xp_kind (by omega) (fun k hk => ?_) (fun hk => br_t (by decide) (nm_e (hnext (fun z => z.2 hk))))
      have hk2 : k < 2 := by
        have := tm_kd_c hk
        omega
      have hr : tm_rd (m s) i := ⟨hf, by rw [hk]; exact Option.some_ne_none k⟩
      rw [if_pos hr] at h1
      exact br_f (nI_pos (by omega)) (h1 i rfl)
theorem xp_redex {post : Int32 → Prop} (hM : mm_M 49 86 T L m) {s : Nat} (hs : s < 86) (h1 : ∀ i, tm_rx (m s) (m s).length = some i → post (nI i)) (h0 : tm_rx (m s) (m s).length = none → post (-1)) : wpX_lastRedex post (xn, xq, xa, xg, T, L, ay, gs, so, E, B, pv, vl, el) (nI s) := by
  unfold wpX_lastRedex
  dsimp only
  have hle := mm_le hM hs
  rw [nI_clamp (n := s) (by omega), mm_len hM hs]
  refine ⟨vp_in_nI hs (by omega), ?_⟩
  by_cases hz : (m s).length = 0
  · rw [hz] at h1 h0 ⊢
    refine nm_e ⟨1, ?_⟩
    rw [wX_lastRedex_9]
    dsimp only
    exact br_t (by decide) (h0 rfl)
  · obtain ⟨k, hk⟩ : ∃ k, (m s).length = k + 1 := ⟨(m s).length - 1, by omega⟩
    rw [hk, tm_rx_last hk] at h1 h0
    rw [hk]
    refine nm_r (e' := nI k - 1) ?_ ⟨k + 1, xl_redex hM hs (k + 1) k (by omega) (by omega) h1 h0⟩
    rw [← nI_1 k, Int32.sub_eq_add_neg, Int32.sub_eq_add_neg, Int32.add_assoc, show (1 : Int32) + -2 = -1 from by decide]
theorem xl_st {w x : List Nat} {a e : Nat} (y : List Nat) (h : e ≤ w.length) : ((((([] : List Nat) ++ (w.drop 0).take (a - 0)).take 49 ++ y).take 49) ++ (w.drop e).take (w.length - e)).take 49 = (w.take a ++ (y ++ w.drop e)).take 49 := by
  rw [List.drop_zero, Nat.sub_zero, List.nil_append, mm_tt, List.append_assoc, mm_tt, mm_tl (x := w.drop e) (by rw [List.length_drop]; omega)]
theorem xl_norm {post : Int32 → St1 → Prop} (hG : tm_GS g) (hR : tm_RU g (iv_R m)) (hg : sg_X g ay gs so) (h3 : ∀ c, tm_ar g c < 2 ^ 30) {s : Nat} (hs : s < 83) (hs2 : 81 ≤ s) {S : List Nat} {o : Option (List Nat)}
    (h1 : ∀ w', o = some w' → ∀ T' L' E' B' m', mm_M 49 86 T' L' m' → m' s = w' → (∀ u, u ≠ s → u ≠ 83 → m' u = m u) → post 1 (xn, xq, xa, xg, T', L', ay, gs, so, E', B', pv, vl, el))
    (h0 : o = none → ∀ T' L' E' B' m', mm_M 49 86 T' L' m' → (∀ u, u ≠ s → u ≠ 83 → m' u = m u) → post 0 (xn, xq, xa, xg, T', L', ay, gs, so, E', B', pv, vl, el)) :
    ∀ n st T L E B m', 129 < n + st → st ≤ 129 → mm_M 49 86 T L m' → (∀ u, u ≠ s → u ≠ 83 → m' u = m u) → (st ≤ 128 → (m' s).length ≤ 48 → tm_nz g (iv_R m) (128 - st) (m' s) = o ∧ tm_P g S (m' s) ∧ tm_FC (iv_R m) (m' s)) → (st = 129 ∨ 48 < (m' s).length → o = none) → wX_normalize_2 post (nI s) n (nI st) xn xq xa xg T L ay gs so E B pv vl el := by
  intro n
  induction n with
  | zero => intro st T L E B m' a b; omega
  | succ n ih =>
    intro st T L E B m' ha hb hM hfr hok hno
    have hs86 : s < 86 := by omega
    have hle := mm_le hM hs86
    rw [wX_normalize_2]
    dsimp only
    refine pk_lt 128 st (fun hgt => h0 (hno (Or.inl (by omega))) T L E B m' hM hfr) (fun hst => ?_)
    rw [nI_clamp (n := s) (by omega), mm_len hM hs86]
    refine ⟨vp_in_nI hs86 (by omega), pk_le (m' s).length 48 (fun hl => ?_) (fun hl => h0 (hno (Or.inr hl)) T L E B m' hM hfr)⟩
    obtain ⟨hnz, hP, hF⟩ := hok hst hl
    refine xp_redex hM hs86 (fun i hi => ?_) (fun hi => ?_)
    · obtain ⟨hil, hrd⟩ := tm_rx_lt _ _ hi
      obtain ⟨r, hmm, hne, hst2, hP', hF'⟩ := tm_st_ok hG hR hP hF hrd
      have hil2 := tm_rd_lt hrd
      have hfn : tm_fn (tm_at (m' s) i) := hrd.1
      obtain ⟨k, hk⟩ : ∃ k, tm_kd (tm_at (m' s) (i + 1)) = some k := Option.ne_none_iff_exists'.mp hrd.2
      have hk2 : k < 2 := by
        have := tm_kd_c hk
        omega
      have hri : tm_ri (m' s) i = 4 * (tm_at (m' s) i - 70) + 2 * k := by
        unfold tm_ri
        rw [hk]
        rfl
      have b1 := mm_b hM hs86 i
      have b2 := mm_b hM hs86 (i + 1)
      have hrs : 17 + tm_ri (m' s) i < 48 := by omega
      refine br_t (nI_pos' (by omega)) ?_
      refine xp_sym hM hs86 (by omega) ?_
      rw [nI_1 i]
      refine xp_sym hM hs86 (by omega) ?_
      unfold wpX_ruleSlot
      refine xp_kind (by omega) (fun k' hk' => ?_) (fun hk' => by rw [hk] at hk'; cases hk')
      rw [hk] at hk'
      obtain rfl := Option.some.inj hk'
      rw [show (17 : Int32) + 4 * (nI (tm_at (m' s) i) - 70) + 2 * nI k = nI (17 + tm_ri (m' s) i) by
        rw [xi_slot hfn, show (2 : Int32) * nI k = nI (2 * k) from pk_mul 2 k, nI_add, hri, Nat.add_assoc]]
      refine xp_mark hg hM hs86 h3 (fun E' hE' => ?_)
      have hru : m' (17 + tm_ri (m' s) i) = iv_R m (tm_ri (m' s) i) := hfr _ (by omega) (by omega)
      have hru2 : m' (17 + tm_ri (m' s) i + 1) = iv_R m (tm_ri (m' s) i + 1) := hfr _ (by omega) (by omega)
      refine xp_match (g := g) (pat := true) hM hs86 (by omega) hE' (Or.inl ⟨rfl, by decide⟩) (by omega) ?_ ?_
      · rw [hru]
        intro r' B' hm' hB'
        rw [hmm] at hm'
        obtain rfl := Option.some.inj hm'
        have hpos := tm_mt_pos0 hmm
        refine nm_e ?_
        have hM1 := mm_nil hM (s := 83) (by omega)
        have q1 : ∀ {u : List Nat}, mm_set m' 83 u s = m' s := mm_set_n (by omega)
        have q2 : ∀ {u : List Nat}, mm_set m' 83 u (17 + tm_ri (m' s) i + 1) = m' (17 + tm_ri (m' s) i + 1) := mm_set_n (by omega)
        refine xp_copySpan (s := s) (t := 83) (start := 0) hM1 (by omega) hs86 (by omega) (by rw [q1]; omega) (Nat.zero_le _) (fun T2 L2 hM2 => ?_)
        rw [mm_set_s, mm_set_set, q1] at hM2
        rw [show nI (17 + tm_ri (m' s) i) + 1 = nI (17 + tm_ri (m' s) i + 1) from nI_1 _]
        refine xp_inst (g := g) (s := s) (t := 83) hM2 (by omega) hs86 (by omega) (by omega) (by omega) (by rw [q1]; exact hE') hB' (by rw [q1]; exact hpos) (fun T3 L3 hM3 => ?_)
        rw [mm_set_s, mm_set_set, q1, q2, hru2] at hM3
        have hl3 := mm_len hM3 hs86
        rw [q1] at hl3
        have e1 := tm_e_gt g (w := m' s) (q := i) (by omega)
        have e2 := tm_e_le g (w := m' s) (q := i) (by omega)
        refine ⟨vp_in_nI (by omega) (by omega), vp_in_nI hs86 (by omega), ?_⟩
        dsimp only
        rw [nI_clamp (n := i) (by omega), hl3, hE' i (by omega)]
        refine xp_copySpan (s := s) (t := 83) hM3 (by omega) hs86 (by omega) (by rw [q1]; exact Nat.le_refl _) e2 (fun T4 L4 hM4 => ?_)
        rw [mm_set_s, mm_set_set, q1, xl_st (x := []) _ e2, ← hst2] at hM4
        refine xp_copyText (s := 83) (t := s) hM4 hs86 (by omega) (by omega) (fun T5 L5 hM5 => ?_)
        rw [mm_set_s] at hM5
        refine nm_r (nI_1 st) (ih (st + 1) T5 L5 E' B' _ (by omega) (by omega) hM5 ?_ ?_ ?_)
        · intro u u1 u2
          rw [mm_set_n u1, mm_set_n u2]
          exact hfr u u1 u2
        · rw [mm_set_s]
          intro t1 t2
          have hlen : (tm_st g (iv_R m) (m' s) i).length ≤ 48 := by
            rw [List.length_take] at t2
            omega
          rw [mm_tl (by omega)]
          refine ⟨?_, hP', hF'⟩
          rw [show 128 - st = (128 - (st + 1)) + 1 by omega, tm_nz_s hi, if_pos hlen] at hnz
          exact hnz
        · rw [mm_set_s]
          intro t1
          by_cases hz : st = 128
          · subst hz
            rw [Nat.sub_self, tm_nz_0 hi] at hnz
            exact hnz.symm
          · rcases t1 with t1 | t1
            · omega
            · rw [List.length_take] at t1
              rw [show 128 - st = (128 - (st + 1)) + 1 by omega, tm_nz_s hi, if_neg (by omega)] at hnz
              exact hnz.symm
      · rw [hru, hmm]
        intro B' z
        cases z
    · rw [tm_nz_no hi] at hnz
      exact br_f (by decide) (h1 _ hnz.symm T L E B m' hM rfl hfr)
theorem xp_norm {post : Int32 → St1 → Prop} (hG : tm_GS g) (hR : tm_RU g (iv_R m)) (hg : sg_X g ay gs so) (h3 : ∀ c, tm_ar g c < 2 ^ 30) (hM : mm_M 49 86 T L m) {s : Nat} (hs : s < 83) (hs2 : 81 ≤ s) {S : List Nat} (hw : (m s).length ≤ 48 → tm_P g S (m s) ∧ tm_FC (iv_R m) (m s))
    (h1 : ∀ w', (m s).length ≤ 48 → tm_nz g (iv_R m) 128 (m s) = some w' → ∀ T' L' E' B' m', mm_M 49 86 T' L' m' → m' s = w' → (∀ u, u ≠ s → u ≠ 83 → m' u = m u) → post 1 (xn, xq, xa, xg, T', L', ay, gs, so, E', B', pv, vl, el))
    (h0 : ((m s).length ≤ 48 → tm_nz g (iv_R m) 128 (m s) = none) → ∀ T' L' E' B' m', mm_M 49 86 T' L' m' → (∀ u, u ≠ s → u ≠ 83 → m' u = m u) → post 0 (xn, xq, xa, xg, T', L', ay, gs, so, E', B', pv, vl, el)) : wpX_normalize post (xn, xq, xa, xg, T, L, ay, gs, so, E, B, pv, vl, el) (nI s) := by
  unfold wpX_normalize
  dsimp only
  by_cases hl : (m s).length ≤ 48
  · refine ⟨130, xl_norm (m := m) (o := tm_nz g (iv_R m) 128 (m s)) (S := S) hG hR hg h3 hs hs2 (fun w' e => h1 w' hl e) (fun e => h0 (fun _ => e)) 130 0 T L E B m (by omega) (by omega) hM (fun _ _ _ => rfl) (fun _ _ => ⟨rfl, hw hl⟩) (fun z => by omega)⟩
  · refine ⟨130, xl_norm (m := m) (o := none) (S := S) hG hR hg h3 hs hs2 (fun w' e => nomatch e) (fun _ => h0 (fun z => absurd z hl)) 130 0 T L E B m (by omega) (by omega) hM (fun _ _ _ => rfl) (fun _ z => absurd z hl) (fun _ => rfl)⟩
theorem xl_sameT {post : Int32 → Prop} (hM : mm_M 49 86 T L m) {a b : Nat} (ha : a < 86) (hb : b < 86) (hab : (m a).length = (m b).length) (h1 : m a = m b → post 1) (h0 : m a ≠ m b → post 0) : ∀ n i, (m a).length < n + i → i ≤ (m a).length → (∀ j, j < i → tm_at (m a) j = tm_at (m b) j) → wX_sameText_19 post (nI a) (nI b) xn xq xa xg T L ay gs so E B pv vl el n (nI i) := by
  have hle := mm_le hM ha
  intro n
  induction n with
  | zero => intro i a b; omega
  | succ n ih =>
    intro i a1 b1 hj
    rw [wX_sameText_19]
    dsimp only
    rw [nI_clamp (n := a) (by omega), mm_len hM ha]
    refine ⟨vp_in_nI ha (by omega), pk_le (m a).length i (fun hge => h1 (tm_ext hab (fun j hj2 => hj j (by omega)))) (fun hlt => ?_)⟩
    have c1 := mm_t hM ha hlt
    have c2 := mm_t hM hb (i := i) (by omega)
    have d1 := mm_b hM ha i
    have d2 := mm_b hM hb i
    rw [xi_ix, xi_ix, nI_clamp (n := a * 49 + i) (by omega), nI_clamp (n := b * 49 + i) (by omega), c1, c2]
    refine ⟨vp_in_nI (by omega) (by omega), vp_in_nI (by omega) (by omega), pk_eq (tm_at (m a) i) (tm_at (m b) i) (fun e => ?_) (fun e => h0 (fun z => e (by rw [z])))⟩
    refine nm_r (nI_1 i) (ih (i + 1) (by omega) (by omega) ?_)
    intro j hj2
    by_cases q : j = i
    · rw [q]; exact e
    · exact hj j (by omega)
theorem xp_sameT {post : Int32 → Prop} (hM : mm_M 49 86 T L m) {a b : Nat} (ha : a < 86) (hb : b < 86) (h1 : m a = m b → post 1) (h0 : m a ≠ m b → post 0) : wpX_sameText post (xn, xq, xa, xg, T, L, ay, gs, so, E, B, pv, vl, el) (nI a) (nI b) := by
  unfold wpX_sameText
  dsimp only
  have l1 := mm_le hM ha
  have l2 := mm_le hM hb
  rw [nI_clamp (n := a) (by omega), nI_clamp (n := b) (by omega), mm_len hM ha, mm_len hM hb]
  refine ⟨vp_in_nI ha (by omega), vp_in_nI hb (by omega), pk_eq (m a).length (m b).length (fun e => ?_) (fun e => h0 (fun z => e (by rw [z])))⟩
  exact ⟨_, xl_sameT hM ha hb e h1 h0 ((m a).length + 1) 0 (by omega) (Nat.zero_le _) (fun j hj => absurd hj (Nat.not_lt_zero _))⟩
end XD
end
section
/-! 14: the class: feed, the judging of rules and conjectures -/
section XE
variable {xn xq xa xg : Int32} {T L ay gs so E B pv vl el : Nat → Int32} {m : Nat → List Nat}
theorem xi_ch {c : Nat} (h : c < 65536) : ((nI c).toUInt32 % 65536).toInt32 = nI c := by
  rw [pk_char, pk_tn (by omega), Nat.mod_eq_of_lt h]
theorem xi_0a (i : Nat) : (0 : Int32) + nI i = nI (0 * 49 + i) := by
  rw [show (0 : Int32) + nI i = nI (0 + i) from nI_add 0 i, Nat.zero_mul]
theorem xl_feed {post : Int32 → St1 → Prop} {w0 w1 w2 w3 : Int32} (hM0 : mm_M 49 86 T L m)
    (h1 : (m 0).length + (fd_l (fd_b w0 w1 w2 w3) 16 0).length ≤ 48 → ∀ T' L', mm_M 49 86 T' L' (mm_set m 0 (m 0 ++ fd_l (fd_b w0 w1 w2 w3) 16 0)) → post (nI ((m 0).length + (fd_l (fd_b w0 w1 w2 w3) 16 0).length)) (xn, xq, xa, xg, T', L', ay, gs, so, E, B, pv, vl, el))
    (h0 : 48 < (m 0).length + (fd_l (fd_b w0 w1 w2 w3) 16 0).length → ∀ T', mm_M 49 86 T' L m → post (-4) (xn, xq, xa, xg, T', L, ay, gs, so, E, B, pv, vl, el)) :
    ∀ n j p T, 16 < n + j → j ≤ 16 → p ++ fd_l (fd_b w0 w1 w2 w3) (16 - j) j = fd_l (fd_b w0 w1 w2 w3) 16 0 → (m 0).length + p.length ≤ 48 → mm_M 49 86 T (upd L 0 (nI (m 0 ++ p).length)) (mm_set m 0 (m 0 ++ p)) → wX_feed_11 post w0 w1 w2 w3 xn xq xa xg n (nI (m 0 ++ p).length) (nI j) T L ay gs so E B pv vl el := by
  intro n
  induction n with
  | zero => intro j p T a b; omega
  | succ n ih =>
    intro j p T ha hb hp hl hM
    have hlen : (m 0 ++ p).length = (m 0).length + p.length := List.length_append
    have hfin : p = fd_l (fd_b w0 w1 w2 w3) 16 0 → post (nI (m 0 ++ p).length) (xn, xq, xa, xg, T, upd L 0 (nI (m 0 ++ p).length), ay, gs, so, E, B, pv, vl, el) := by
      intro e
      rw [hlen] at hM ⊢
      rw [e] at hM hl ⊢
      exact h1 hl _ _ hM
    have h52 : ∀ z0, z0 = fd_w w0 w1 w2 w3 j → j < 16 → wX_feed_52 post (wX_feed_11 post w0 w1 w2 w3 xn xq xa xg n) w0 w1 w2 w3 (nI (m 0 ++ p).length) (nI j) z0 xn xq xa xg T L ay gs so E B pv vl el := by
      intro z0 ez hj
      unfold wX_feed_52
      have hbl := fd_b_lt w0 w1 w2 w3 j
      refine nm_r (e' := nI (fd_b w0 w1 w2 w3 j)) ?_ ?_
      · rw [ez, show nI j &&& 3 = nI (j % 2 ^ 2) from pk_andN (by omega) 2 (by decide), show (8 : Int32) * nI (j % 2 ^ 2) = nI (8 * (j % 2 ^ 2)) from pk_mul 8 _]
        exact fd_b_e w0 w1 w2 w3 j
      · refine pk_eq (fd_b w0 w1 w2 w3 j) 0 (fun e => ?_) (fun e => ?_)
        · rw [fd_l_0 e, List.append_nil] at hp
          exact nm_e (hfin hp)
        · rw [show 16 - j = (16 - (j + 1)) + 1 by omega, fd_l_s e] at hp
          refine pk_lt (m 0 ++ p).length 48 (fun hlt => ?_) (fun hge => ?_)
          · rw [xi_0a, nI_clamp (n := 0 * 49 + (m 0 ++ p).length) (by omega), xi_ch (by omega)]
            refine ⟨vp_in_nI (by omega) (by omega), nm_e (nm_r (nI_1 _) (nm_r (nI_1 j) ?_))⟩
            have hP := mm_put hM (s := 0) (by omega) (n := (m 0 ++ p).length) (by rw [mm_set_s]) (by omega) hbl
            rw [mm_uu, mm_set_s, mm_set_set, List.append_assoc] at hP
            have e2 : (m 0 ++ p).length + 1 = (m 0 ++ (p ++ [fd_b w0 w1 w2 w3 j])).length := by
              rw [List.length_append, List.length_append, List.length_append, List.length_singleton]
              omega
            rw [e2] at hP ⊢
            refine ih (j + 1) (p ++ [fd_b w0 w1 w2 w3 j]) _ (by omega) (by omega) ?_ ?_ hP
            · rw [List.append_assoc]
              exact hp
            · rw [List.length_append, List.length_singleton]
              omega
          · refine h0 ?_ T ?_
            · rw [← hp, List.length_append, List.length_cons]
              omega
            · have hC := mm_cut hM (s := 0) (k := (m 0).length) (by omega) (by rw [mm_set_s]; omega)
              rw [mm_uu, mm_set_s, mm_set_set, List.take_left' rfl, mm_set_self, mm_ue (mm_len hM0 (by omega))] at hC
              exact hC
    rw [wX_feed_11]
    dsimp only
    refine pk_le 16 j (fun hge => ?_) (fun hlt => ?_)
    · have e : j = 16 := by omega
      subst e
      have e3 : p = fd_l (fd_b w0 w1 w2 w3) 16 0 := by
        rw [← hp]
        exact (List.append_nil p).symm
      exact nm_e (hfin e3)
    · refine pk_le 4 j (fun a4 => pk_le 8 j (fun a8 => pk_le 12 j (fun a12 => h52 _ ?_ hlt) (fun a12 => h52 _ ?_ hlt)) (fun a8 => h52 _ ?_ hlt)) (fun a4 => h52 _ ?_ hlt)
      · unfold fd_w
        rw [if_neg (by omega), if_neg (by omega), if_neg (by omega)]
      · unfold fd_w
        rw [if_neg (by omega), if_neg (by omega), if_pos (by omega)]
      · unfold fd_w
        rw [if_neg (by omega), if_pos (by omega)]
      · unfold fd_w
        rw [if_pos (by omega)]
theorem xp_feed {post : Int32 → St1 → Prop} {w0 w1 w2 w3 : Int32} (hM : mm_M 49 86 T L m) (h48 : (m 0).length ≤ 48)
    (h1 : (m 0).length + (fd_l (fd_b w0 w1 w2 w3) 16 0).length ≤ 48 → ∀ T' L', mm_M 49 86 T' L' (mm_set m 0 (m 0 ++ fd_l (fd_b w0 w1 w2 w3) 16 0)) → post (nI ((m 0).length + (fd_l (fd_b w0 w1 w2 w3) 16 0).length)) (xn, xq, xa, xg, T', L', ay, gs, so, E, B, pv, vl, el))
    (h0 : 48 < (m 0).length + (fd_l (fd_b w0 w1 w2 w3) 16 0).length → ∀ T', mm_M 49 86 T' L m → post (-4) (xn, xq, xa, xg, T', L, ay, gs, so, E, B, pv, vl, el)) : wpX_feed post (xn, xq, xa, xg, T, L, ay, gs, so, E, B, pv, vl, el) w0 w1 w2 w3 := by
  unfold wpX_feed
  dsimp only
  have hl := mm_len hM (s := 0) (by omega)
  refine nm_r hl ⟨17, ?_⟩
  have := xl_feed (xn := xn) (xq := xq) (xa := xa) (xg := xg) (ay := ay) (gs := gs) (so := so) (E := E) (B := B) (pv := pv) (vl := vl) (el := el) hM h1 h0 17 0 [] T (by omega) (by omega) rfl (by rw [List.length_nil]; omega) (by
    rw [List.append_nil, mm_set_self, mm_ue hl]
    exact hM)
  rw [List.append_nil] at this
  exact this
/-! rules -/
theorem xl_left {post : Int32 → Prop} (hM : mm_M 49 86 T L m) {e : Nat} (he : e ≤ (m 0).length) (hf : tm_fn (tm_at (m 0) 0)) (hk : tm_kd (tm_at (m 0) 1) ≠ none) (h1 : eq_FL (m 0) e → post 1) (h0 : ¬ eq_FL (m 0) e → post 0) :
    ∀ n i k, e - i < n → 2 ≤ i → i < 100 → (∀ j, 2 ≤ j → j < i → tm_vn (tm_at (m 0) j) ≠ none) → (∀ a b, 2 ≤ a → a < b → b < i → tm_at (m 0) a ≠ tm_at (m 0) b) → vz_S k (fun v => ∃ j, 2 ≤ j ∧ j < i ∧ tm_at (m 0) j = tm_vc v) → wX_isRuleLeft_36 post (nI e) xn xq xa xg T L ay gs so E B pv vl el n (nI k) (nI i) := by
  have hle := mm_le hM (s := 0) (by omega)
  intro n
  induction n with
  | zero => intro i k a; omega
  | succ n ih =>
    intro i k ha hb h100 hv hd hS
    rw [wX_isRuleLeft_36]
    dsimp only
    refine pk_le e i (fun hge => h1 ⟨hf, hk, fun j a b => hv j a (by omega), fun a b x y z => hd a b x y (by omega)⟩) (fun hlt => ?_)
    have hbb := mm_b hM (s := 0) (by omega) i
    refine xp_sym (s := 0) hM (by omega) (by omega) ?_
    refine xp_vnum (by omega) (fun v hvn hv16 => ?_) (fun hvn => br_t (by decide) (h0 (fun z => z.2.2.1 i hb hlt hvn)))
    obtain ⟨b0, b1⟩ := vz_S_bit hS hv16
    refine br_f (nI_pos (by omega)) ?_
    by_cases hp : ∃ j, 2 ≤ j ∧ j < i ∧ tm_at (m 0) j = tm_vc v
    · refine br_t (b1.mpr hp) (h0 (fun z => ?_))
      obtain ⟨j, j1, j2, j3⟩ := hp
      apply z.2.2.2 j i j1 j2 hlt
      rw [j3, (tm_vn_ch hvn).1]
    · refine br_f (fun z => hp (b1.mp z)) (nm_r (by rw [vz_one hv16, vz_or]) (nm_r (nI_1 i) (ih (i + 1) _ (by omega) (by omega) (by omega) ?_ ?_ (vz_S_iff ?_ (vz_S_or hS (vz_S_one hv16))))))
      · intro j j1 j2
        by_cases q : j = i
        · rw [q, hvn]
          exact Option.some_ne_none v
        · exact hv j j1 (by omega)
      · intro a b a1 a2 a3
        by_cases q : b = i
        · subst q
          intro z
          exact hp ⟨a, a1, a2, by rw [z, (tm_vn_ch hvn).1]⟩
        · exact hd a b a1 a2 (by omega)
      · intro u hu
        constructor
        · rintro (⟨j, j1, j2, j3⟩ | q)
          · exact ⟨j, j1, by omega, j3⟩
          · exact ⟨i, hb, by omega, by rw [q, (tm_vn_ch hvn).1]⟩
        · rintro ⟨j, j1, j2, j3⟩
          by_cases q : j = i
          · right
            rw [q, (tm_vn_ch hvn).1] at j3
            exact xi_vcinj hu hv16 j3.symm
          · exact Or.inl ⟨j, j1, by omega, j3⟩
theorem xp_left {post : Int32 → Prop} (hM : mm_M 49 86 T L m) {e : Nat} (he : e ≤ (m 0).length) (h1 : eq_FL (m 0) e → post 1) (h0 : ¬ eq_FL (m 0) e → post 0) : wpX_isRuleLeft post (xn, xq, xa, xg, T, L, ay, gs, so, E, B, pv, vl, el) (nI e) := by
  unfold wpX_isRuleLeft
  dsimp only
  have hle := mm_le hM (s := 0) (by omega)
  have b0 := mm_b hM (s := 0) (by omega) 0
  have b1 := mm_b hM (s := 0) (by omega) 1
  refine xp_sym (s := 0) (i := 0) hM (by omega) (by omega) ?_
  refine xp_sym (s := 0) (i := 1) hM (by omega) (by omega) ?_
  refine xp_isf (by omega) (fun hf => br_f (by decide) ?_) (fun hf => br_t rfl (h0 (fun z => hf z.1)))
  refine xp_kind (by omega) (fun k hk => ?_) (fun hk => br_f (by decide) (h0 (fun z => z.2.1 hk)))
  have hk2 : k < 2 := by
    have := tm_kd_c hk
    omega
  refine br_t (nI_pos' (by omega)) ⟨e + 1, xl_left hM he hf (by rw [hk]; exact Option.some_ne_none k) h1 h0 _ 2 0 (by omega) (by omega) (by omega) (fun j a b => by omega) (fun a b x y z => by omega) (vz_S_iff ?_ vz_S_0)⟩
  intro v _
  exact ⟨fun z => z.elim, fun ⟨j, j1, j2, _⟩ => by omega⟩
theorem xp_recv {post : Int32 → Prop} (hM : mm_M 49 86 T L m) (h : post (nI (eq_rc (m 0)))) : wpX_recursionVariable post (xn, xq, xa, xg, T, L, ay, gs, so, E, B, pv, vl, el) := by
  unfold wpX_recursionVariable
  dsimp only
  have b1 := mm_b hM (s := 0) (by omega) 1
  have b2 := mm_b hM (s := 0) (by omega) 2
  have b3 := mm_b hM (s := 0) (by omega) 3
  unfold eq_rc at h
  refine xp_sym (s := 0) (i := 1) hM (by omega) (by omega) ?_
  refine pk_eq (tm_at (m 0) 1) 83 (fun e => ?_) (fun e => pk_eq (tm_at (m 0) 1) 67 (fun e2 => ?_) (fun e2 => ?_))
  · rw [if_pos e] at h
    exact xp_sym (s := 0) (i := 2) hM (by omega) (by omega) ⟨(pk_charN (by omega)).1, h⟩
  · rw [if_neg e, if_pos e2] at h
    exact xp_sym (s := 0) (i := 3) hM (by omega) (by omega) ⟨(pk_charN (by omega)).1, h⟩
  · rw [if_neg e, if_neg e2] at h
    exact h
theorem eq_rc_lt {W N : Nat} {T L : Nat → Int32} {m : Nat → List Nat} (hM : mm_M W N T L m) {s : Nat} (hs : s < N) : eq_rc (m s) < 256 := by
  unfold eq_rc
  have b2 := mm_b hM hs 2
  have b3 := mm_b hM hs 3
  split
  · exact b2
  · split
    · exact b3
    · decide
theorem xl_r131 {post : Int32 → Prop} {J : Int32 → Prop} {x4 x5 x6 x9 z0 : Int32} {c : Nat} (hc : c < 65536) (hJ : ¬ tm_fn c ∨ ¬ x9 = 0 ∨ ¬ z0 = 0 → J (x6 + 1)) (h0 : tm_fn c → x9 = 0 → z0 = 0 → post 0) : wX_isRuleRight_131 post J x4 x5 x6 (nI c) x9 z0 xn xq xa xg T L ay gs so E B pv vl el := by
  unfold wX_isRuleRight_131
  refine xp_isf hc (fun hf => br_f (by decide) (br_c (fun e => br_c (fun e2 => h0 hf e e2) (fun e2 => nm_e (hJ (Or.inr (Or.inr e2))))) (fun e => nm_e (hJ (Or.inr (Or.inl e)))))) (fun hf => br_t rfl (nm_e (hJ (Or.inl hf))))
theorem xl_r107 {post : Int32 → Prop} {J : Int32 → Prop} {x5 x6 z0 : Int32} (hM : mm_M 49 86 T L m) {c f : Nat} (hc : c < 65536) (hf : f < 65536) (hJ : ¬ tm_fn c ∨ ¬ z0 = 0 ∨ (c < f ∧ tm_cp (iv_R m) c) → J (x6 + 1)) (h0 : tm_fn c → z0 = 0 → ¬ (c < f ∧ tm_cp (iv_R m) c) → post 0) : wX_isRuleRight_107 post J (nI f) x5 x6 (nI c) z0 xn xq xa xg T L ay gs so E B pv vl el := by
  unfold wX_isRuleRight_107 wX_isRuleRight_130
  have hno : ¬ (c < f ∧ tm_cp (iv_R m) c) → wX_isRuleRight_131 post J (nI f) x5 x6 (nI c) z0 0 xn xq xa xg T L ay gs so E B pv vl el := by
    intro hn
    refine xl_r131 hc (fun h => ?_) (fun h1 h2 _ => h0 h1 h2 hn)
    rcases h with h | h | h
    · exact hJ (Or.inl h)
    · exact hJ (Or.inr (Or.inl h))
    · exact absurd rfl h
  refine pk_le f c (fun hge => hno (fun z => by omega)) (fun hlt => ?_)
  refine xp_rcount hM hc (fun hfn => ?_) (fun hfn => br_f (by decide) (xl_r131 hc (fun h => hJ (Or.inl hfn)) (fun h1 _ _ => absurd h1 hfn)))
  have hle := rc_le (iv_R m) c
  refine pk_eq (rc_n (iv_R m) c) 2 (fun e => ?_) (fun e => hno (fun z => e (rc_2.mpr z.2)))
  exact xl_r131 hc (fun _ => hJ (Or.inr (Or.inr ⟨hlt, rc_2.mp e⟩))) (fun _ _ z => absurd z (by decide))
theorem xl_right {post : Int32 → Prop} (hM : mm_M 49 86 T L m) {e : Nat} (h1 : eq_FF (iv_R m) (m 0) e → post 1) (h0 : ¬ eq_FF (iv_R m) (m 0) e → post 0) :
    ∀ n i, (m 0).length - i < n → e < i → i < 100 → (∀ j, e < j → j < i → eq_F1 (iv_R m) (m 0) j) → wX_isRuleRight_52 post (nI (tm_at (m 0) 0)) (nI (eq_rc (m 0))) xn xq xa xg T L ay gs so E B pv vl el n (nI i) := by
  have hle := mm_le hM (s := 0) (by omega)
  have b0 := mm_b hM (s := 0) (by omega) 0
  have brc := eq_rc_lt hM (s := 0) (by omega)
  intro n
  induction n with
  | zero => intro i a; omega
  | succ n ih =>
    intro i ha hb h100 hF
    rw [wX_isRuleRight_52]
    dsimp only
    rw [mm_len hM (by omega : (0 : Nat) < 86)]
    refine pk_le (m 0).length i (fun hge => h1 (fun j a b => hF j a (by omega))) (fun hlt => ?_)
    have bi := mm_b hM (s := 0) (by omega) i
    have bj := mm_b hM (s := 0) (by omega) (i + 1)
    have hJ : eq_F1 (iv_R m) (m 0) i → wX_isRuleRight_52 post (nI (tm_at (m 0) 0)) (nI (eq_rc (m 0))) xn xq xa xg T L ay gs so E B pv vl el n (nI i + 1) := by
      intro hf
      rw [nI_1]
      refine ih (i + 1) (by omega) (by omega) (by omega) (fun j a b => ?_)
      by_cases q : j = i
      · rw [q]; exact hf
      · exact hF j a (by omega)
    have hN : ¬ eq_F1 (iv_R m) (m 0) i → post 0 := fun hn => h0 (fun z => hn (z i hb hlt))
    have h106 : ¬ (tm_at (m 0) i = tm_at (m 0) 0 ∧ eq_rc (m 0) ≠ 0 ∧ tm_at (m 0) (i + 1) = eq_rc (m 0)) → wX_isRuleRight_107 post (wX_isRuleRight_52 post (nI (tm_at (m 0) 0)) (nI (eq_rc (m 0))) xn xq xa xg T L ay gs so E B pv vl el n) (nI (tm_at (m 0) 0)) (nI (eq_rc (m 0))) (nI i) (nI (tm_at (m 0) i)) 0 xn xq xa xg T L ay gs so E B pv vl el := by
      intro hn
      refine xl_r107 hM (by omega) (by omega) (fun h => hJ (fun hf => ?_)) (fun hf _ hc => hN (fun z => ?_))
      · rcases h with h | h | h
        · exact absurd hf h
        · exact absurd rfl h
        · exact Or.inl h
      · rcases z hf with z | z
        · exact hc z
        · exact hn z
    refine xp_sym (s := 0) hM (by omega) (by omega) ?_
    rw [nI_1 i]
    refine xp_sym (s := 0) hM (by omega) (by omega) ?_
    refine pk_eq (tm_at (m 0) i) (tm_at (m 0) 0) (fun q1 => pk_eq (eq_rc (m 0)) 0 (fun q2 => ?_) (fun q2 => pk_eq (tm_at (m 0) (i + 1)) (eq_rc (m 0)) (fun q3 => ?_) (fun q3 => ?_))) (fun q1 => ?_)
    · exact h106 (fun z => z.2.1 q2)
    · exact xl_r107 hM (by omega) (by omega) (fun _ => hJ (fun _ => Or.inr ⟨q1, q2, q3⟩)) (fun _ z _ => absurd z (by decide))
    · exact h106 (fun z => q3 z.2.2)
    · exact h106 (fun z => q1 z.1)
theorem xi_FV {w : List Nat} {e : Nat} (he : e < w.length) : (∀ v, v < 16 → tm_vc v ∈ (w.take w.length).drop (e + 1) → tm_vc v ∈ (w.take e).drop 0) ↔ eq_FV w e := by
  rw [mm_tl (Nat.le_refl _), List.drop_zero]
  constructor
  · intro h i h1 h2 h3
    obtain ⟨v, hv⟩ := Option.ne_none_iff_exists'.mp h3
    obtain ⟨hc, hv16⟩ := tm_vn_ch hv
    have hm : tm_vc v ∈ w.drop (e + 1) := by
      rw [← hc, show i = e + 1 + (i - (e + 1)) by omega, ← tm_at_drop]
      exact tm_at_mem (by rw [List.length_drop]; omega)
    obtain ⟨j, hj, q⟩ := tm_mem_at (h v hv16 hm)
    rw [List.length_take] at hj
    rw [tm_at_take (by omega)] at q
    exact ⟨j, by omega, by rw [q, hc]⟩
  · intro h v hv16 hm
    obtain ⟨i, hi, q⟩ := tm_mem_at hm
    rw [List.length_drop] at hi
    rw [tm_at_drop] at q
    obtain ⟨j, hj, q2⟩ := h (e + 1 + i) (by omega) (by omega) (by rw [q, tm_vn_vc hv16]; exact Option.some_ne_none v)
    rw [← q, ← q2, ← tm_at_take (w := w) hj]
    exact tm_at_mem (by rw [List.length_take]; omega)
theorem xp_right {post : Int32 → Prop} (hM : mm_M 49 86 T L m) {e : Nat} (he : e < (m 0).length) (h1 : eq_FV (m 0) e → eq_FF (iv_R m) (m 0) e → post 1) (h0 : ¬ (eq_FV (m 0) e ∧ eq_FF (iv_R m) (m 0) e) → post 0) : wpX_isRuleRight post (xn, xq, xa, xg, T, L, ay, gs, so, E, B, pv, vl, el) (nI e) := by
  unfold wpX_isRuleRight
  dsimp only
  have hle := mm_le hM (s := 0) (by omega)
  refine xp_vars (s := 0) (start := 0) hM (by omega) (by omega) (by omega) (fun k1 s1 => ?_)
  rw [nI_1 e, mm_len hM (by omega : (0 : Nat) < 86)]
  refine xp_vars (s := 0) hM (by omega) (Nat.le_refl _) (by omega) (fun k2 s2 => ?_)
  have hd := (vz_diff s2 s1).trans (xi_FV he)
  by_cases hv : eq_FV (m 0) e
  · refine br_t (hd.mpr hv) ?_
    refine xp_sym (s := 0) (i := 0) hM (by omega) (by omega) ?_
    refine xp_recv hM ?_
    refine nm_e ⟨(m 0).length + 1, xl_right hM (h1 hv) (fun z => h0 (fun y => z y.2)) _ (e + 1) (by omega) (by omega) (by omega) (fun j a b => by omega)⟩
  · exact br_f (fun z => hv (hd.mp z)) (h0 (fun z => hv z.1))
theorem xp_bslot {post : Int32 → Prop} (hM : mm_M 49 86 T L m) {k : Nat} (hf : tm_fn (tm_at (m 0) 0)) (hk : tm_kd (tm_at (m 0) 1) = some k) (h : post (nI (17 + (4 * (tm_at (m 0) 0 - 70) + 2 * k)))) : wpX_bufferRuleSlot post (xn, xq, xa, xg, T, L, ay, gs, so, E, B, pv, vl, el) := by
  unfold wpX_bufferRuleSlot
  dsimp only
  have b1 := mm_b hM (s := 0) (by omega) 1
  refine xp_sym (s := 0) (i := 0) hM (by omega) (by omega) ?_
  refine xp_sym (s := 0) (i := 1) hM (by omega) (by omega) ?_
  unfold wpX_ruleSlot
  refine xp_kind (by omega) (fun k' hk' => ?_) (fun hk' => by rw [hk] at hk'; cases hk')
  rw [hk] at hk'
  obtain rfl := Option.some.inj hk'
  rw [xi_slot hf, show (2 : Int32) * nI k = nI (2 * k) from pk_mul 2 k, nI_add, Nat.add_assoc]
  exact h
theorem xp_judgeR {post : Int32 → Prop} (hM : mm_M 49 86 T L m) {e : Nat} (he : e < (m 0).length) (hF : ¬ eq_F (iv_R m) (m 0) e → post (-2)) (hD : ∀ k, eq_F (iv_R m) (m 0) e → tm_kd (tm_at (m 0) 1) = some k → iv_R m (4 * (tm_at (m 0) 0 - 70) + 2 * k) ≠ [] → post (-3))
    (hO : ∀ k, eq_F (iv_R m) (m 0) e → tm_kd (tm_at (m 0) 1) = some k → iv_R m (4 * (tm_at (m 0) 0 - 70) + 2 * k) = [] → post 0) : wpX_judgeRule post (xn, xq, xa, xg, T, L, ay, gs, so, E, B, pv, vl, el) (nI e) := by
  unfold wpX_judgeRule
  dsimp only
  have hle := mm_le hM (s := 0) (by omega)
  refine br_t (nI_pos' (by omega)) ?_
  refine xp_left hM (by omega) (fun hL => br_f (by decide) ?_) (fun hL => br_t rfl (hF (fun z => hL z.1)))
  refine xp_right hM he (fun hV hFF => br_f (by decide) ?_) (fun hn => br_t rfl (hF (fun z => hn z.2)))
  obtain ⟨k, hk⟩ := Option.ne_none_iff_exists'.mp hL.2.1
  have hk2 : k < 2 := by
    have := tm_kd_c hk
    omega
  have hf : tm_fn (tm_at (m 0) 0) := hL.1
  have hs : 17 + (4 * (tm_at (m 0) 0 - 70) + 2 * k) < 86 := by omega
  have hl2 := mm_le hM hs
  refine xp_bslot hM hf hk ⟨vp_in_nI hs (by omega), ?_⟩
  rw [nI_clamp (n := 17 + (4 * (tm_at (m 0) 0 - 70) + 2 * k)) (by omega), mm_len hM hs]
  refine pk_le (m (17 + (4 * (tm_at (m 0) 0 - 70) + 2 * k))).length 0 (fun z => hO k ⟨hL, hV, hFF⟩ hk (List.eq_nil_of_length_eq_zero (show (m (17 + (4 * (tm_at (m 0) 0 - 70) + 2 * k))).length = 0 by omega))) (fun z => hD k ⟨hL, hV, hFF⟩ hk (fun y => ?_))
  have y' : (m (17 + (4 * (tm_at (m 0) 0 - 70) + 2 * k))).length = 0 := congrArg List.length y
  omega
theorem xl_judgeC {post : Int32 → Prop} {q : Nat} (hq : q ≤ 8) (hM : mm_M 49 86 T L m) (hF : ¬ tm_FC (iv_R m) (m 0) → post (-2)) (hU : tm_FC (iv_R m) (m 0) → q = 8 → post (-4)) (hO : tm_FC (iv_R m) (m 0) → q < 8 → post 0) :
    ∀ n i, (m 0).length - i < n → i ≤ (m 0).length → (∀ j, j < i → tm_fn (tm_at (m 0) j) → tm_cp (iv_R m) (tm_at (m 0) j)) → wX_judgeConjecture_8 post xn (nI q) xa xg T L ay gs so E B pv vl el n (nI i) := by
  have hle := mm_le hM (s := 0) (by omega)
  intro n
  induction n with
  | zero => intro i a; omega
  | succ n ih =>
    intro i ha hb hj
    rw [wX_judgeConjecture_8]
    dsimp only
    rw [mm_len hM (by omega : (0 : Nat) < 86)]
    refine pk_le (m 0).length i (fun hge => ?_) (fun hlt => ?_)
    · have hFC : tm_FC (iv_R m) (m 0) := by
        intro c hc hf
        obtain ⟨j, hj2, rfl⟩ := tm_mem_at hc
        exact hj j (by omega) hf
      exact pk_lt q 8 (fun z => hO hFC z) (fun z => hU hFC (by omega))
    · have bi := mm_b hM (s := 0) (by omega) i
      have hnext : (tm_fn (tm_at (m 0) i) → tm_cp (iv_R m) (tm_at (m 0) i)) → wX_judgeConjecture_8 post xn (nI q) xa xg T L ay gs so E B pv vl el n (nI i + 1) := by
        intro hf
        rw [nI_1]
        refine ih (i + 1) (by omega) (by omega) (fun j h2 => ?_)
        by_cases z : j = i
        · rw [z]; exact hf
        · exact hj j (by omega)
      refine xp_sym (s := 0) hM (by omega) (by omega) ?_
      refine xp_isf (by omega) (fun hf => br_f (by decide) ?_) (fun hf => br_t rfl (nm_e (hnext (fun z => absurd z hf))))
      have hrc := rc_le (iv_R m) (tm_at (m 0) i)
      refine xp_rcount hM (by omega) (fun _ => ?_) (fun z => absurd hf z)
      refine pk_le 2 (rc_n (iv_R m) (tm_at (m 0) i)) (fun z => nm_e (hnext (fun _ => rc_2.mp (by omega)))) (fun z => hF (fun hFC => ?_))
      have := rc_2.mpr (hFC _ (tm_at_mem hlt) hf)
      omega
theorem xp_judgeC {post : Int32 → Prop} {q e : Nat} (hq : q ≤ 8) (hM : mm_M 49 86 T L m) (he : e < (m 0).length) (hF : ¬ tm_FC (iv_R m) (m 0) → post (-2)) (hU : tm_FC (iv_R m) (m 0) → q = 8 → post (-4)) (hO : tm_FC (iv_R m) (m 0) → q < 8 → post 0) : wpX_judgeConjecture post (xn, nI q, xa, xg, T, L, ay, gs, so, E, B, pv, vl, el) (nI e) := by
  unfold wpX_judgeConjecture
  dsimp only
  have hle := mm_le hM (s := 0) (by omega)
  refine br_t (nI_pos' (by omega)) ⟨(m 0).length + 1, xl_judgeC hq hM hF hU hO _ 0 (by omega) (Nat.zero_le _) (fun j a => absurd a (Nat.not_lt_zero _))⟩
end XE
end
section
/-! 15: the class: defineRule, conjecture, and what simp, useHyp, useLemma share -/
theorem tm_ar_lt {n : Nat} {A : Nat → List Nat} {Z : Nat → Nat} (hS : tm_SG n A Z) (c : Nat) : tm_ar (tm_sg n A Z) c < 2 ^ 30 := by
  cases e : tm_sg n A Z c with
  | none =>
    unfold tm_ar
    rw [e]
    decide
  | some p =>
    obtain ⟨a, s⟩ := p
    rw [tm_ar_some e]
    have := (tm_sg_b hS e).1
    omega
def tm_N (g : tm_G) (R : Nat → List Nat) (w : List Nat) : Option (List Nat) := if w.length ≤ 48 then tm_nz g R 128 w else none
theorem tm_N_take {g : tm_G} {R : Nat → List Nat} {w : List Nat} : tm_N g R (w.take 49) = tm_N g R w := by
  unfold tm_N
  by_cases h : w.length ≤ 48
  · rw [mm_tl (by omega), if_pos h]
  · rw [if_neg h, if_neg (by rw [List.length_take]; omega)]
theorem tm_nz_ext {g : tm_G} {R R' : Nat → List Nat} (h : ∀ i, i < 32 → R' i = R i) (n : Nat) : ∀ w, tm_nz g R' n w = tm_nz g R n w := by
  have hst : ∀ w i, tm_rx w w.length = some i → tm_st g R' w i = tm_st g R w i := by
    intro w i hi
    have hr := (tm_rx_lt _ _ hi).2
    have hfn : tm_fn (tm_at w i) := hr.1
    obtain ⟨k, hk⟩ : ∃ k, tm_kd (tm_at w (i + 1)) = some k := Option.ne_none_iff_exists'.mp hr.2
    have hk2 : k < 2 := by
      have := tm_kd_c hk
      omega
    have hri : tm_ri w i = 4 * (tm_at w i - 70) + 2 * k := by
      unfold tm_ri
      rw [hk]
      rfl
    unfold tm_st
    rw [h (tm_ri w i) (by omega), h (tm_ri w i + 1) (by omega)]
  induction n with
  | zero =>
    intro w
    cases hx : tm_rx w w.length with
    | none => rw [tm_nz_no hx, tm_nz_no hx]
    | some i => rw [tm_nz_0 hx, tm_nz_0 hx]
  | succ n ih =>
    intro w
    cases hx : tm_rx w w.length with
    | none => rw [tm_nz_no hx, tm_nz_no hx]
    | some i => rw [tm_nz_s hx, tm_nz_s hx, hst w i hx, ih]
theorem tm_N_ext {g : tm_G} {R R' : Nat → List Nat} (h : ∀ i, i < 32 → R' i = R i) (w : List Nat) : tm_N g R' w = tm_N g R w := by
  unfold tm_N
  rw [tm_nz_ext h]
theorem tm_N_ok {g : tm_G} {R : Nat → List Nat} {S w w' : List Nat} (hG : tm_GS g) (hR : tm_RU g R) (h : w.length ≤ 48 → tm_P g S w ∧ tm_FC R w) (e : tm_N g R w = some w') : tm_P g S w' ∧ tm_FC R w' ∧ w'.length ≤ 48 := by
  unfold tm_N at e
  by_cases hl : w.length ≤ 48
  · rw [if_pos hl] at e
    exact tm_nz_ok hG hR 128 w w' (h hl).1 (h hl).2 hl e
  · rw [if_neg hl] at e
    cases e
section XF
variable {xn xq xa xg : Int32} {T L ay gs so E B pv vl el : Nat → Int32} {m : Nat → List Nat} {n q ng : Nat} {A : Nat → List Nat} {Z : Nat → Nat} {hy : Nat → Bool}
theorem xp_define {post : Int32 → St1 → Prop} (hW : iv_W n A Z q ng hy m) (hg : sg_X (tm_sg n A Z) ay gs so) (hM : mm_M 49 86 T L m)
    (hS : (∀ e, ¬ eq_Q (tm_sg n A Z) (m 0) e) → post (-1) (xn, xq, xa, xg, T, upd L 0 0, ay, gs, so, E, B, pv, vl, el))
    (hF : ∀ e, eq_Q (tm_sg n A Z) (m 0) e → ¬ eq_F (iv_R m) (m 0) e → post (-2) (xn, xq, xa, xg, T, upd L 0 0, ay, gs, so, E, B, pv, vl, el))
    (hD : ∀ e k, eq_Q (tm_sg n A Z) (m 0) e → eq_F (iv_R m) (m 0) e → tm_kd (tm_at (m 0) 1) = some k → iv_R m (4 * (tm_at (m 0) 0 - 70) + 2 * k) ≠ [] → post (-3) (xn, xq, xa, xg, T, upd L 0 0, ay, gs, so, E, B, pv, vl, el))
    (hO : ∀ e k T' L' m', eq_Q (tm_sg n A Z) (m 0) e → eq_F (iv_R m) (m 0) e → tm_kd (tm_at (m 0) 1) = some k → iv_R m (4 * (tm_at (m 0) 0 - 70) + 2 * k) = [] → mm_M 49 86 T' L' m' → m' 0 = [] → m' (17 + (4 * (tm_at (m 0) 0 - 70) + 2 * k)) = (m 0).take e → m' (17 + (4 * (tm_at (m 0) 0 - 70) + 2 * k + 1)) = (m 0).drop (e + 1) →
      (∀ s, s ≠ 0 → s ≠ 17 + (4 * (tm_at (m 0) 0 - 70) + 2 * k) → s ≠ 17 + (4 * (tm_at (m 0) 0 - 70) + 2 * k + 1) → m' s = m s) → post 0 (xn, xq, xa, xg, T', L', ay, gs, so, E, B, pv, vl, el)) : wpX_defineRule post (xn, xq, xa, xg, T, L, ay, gs, so, E, B, pv, vl, el) := by
  unfold wpX_defineRule
  dsimp only
  have h48 := hW.2.2.2.1
  refine xp_feq hW.1 hg hM h48 (fun e hQ => ?_) (fun hno => ?_)
  · have he := hQ.1
    refine xp_judgeR hM he (fun hnF => ?_) (fun k hFF hk hne => ?_) (fun k hFF hk hnil => ?_)
    · exact br_f (by decide) (nm_e (hF e hQ hnF))
    · exact br_f (by decide) (nm_e (hD e k hQ hFF hk hne))
    · refine br_t rfl ?_
      have hfn : tm_fn (tm_at (m 0) 0) := hFF.1.1
      have hk2 : k < 2 := by
        have := tm_kd_c hk
        omega
      have hnil2 := (hW.2.2.2.2.2.1.2.1 (tm_at (m 0) 0 - 70) k (by omega) hk2).2 hnil
      refine xp_bslot hM hfn hk ?_
      refine xp_copySpan (s := 0) (start := 0) hM (by omega) (by omega) (by omega) (by omega) (Nat.zero_le _) (fun T1 L1 hM1 => ?_)
      have ht1 : m (17 + (4 * (tm_at (m 0) 0 - 70) + 2 * k)) = [] := hnil
      have ht2 : m (17 + (4 * (tm_at (m 0) 0 - 70) + 2 * k + 1)) = [] := hnil2
      rw [ht1, List.nil_append, List.drop_zero, Nat.sub_zero, mm_tl (K := 49) (by rw [List.length_take]; omega)] at hM1
      have hl1 := mm_len hM1 (s := 0) (by omega)
      rw [mm_set_n (by omega)] at hl1
      dsimp only
      rw [hl1, show nI (17 + (4 * (tm_at (m 0) 0 - 70) + 2 * k)) + 1 = nI (17 + (4 * (tm_at (m 0) 0 - 70) + 2 * k + 1)) from by rw [nI_1, Nat.add_assoc], nI_1 e]
      refine xp_copySpan (s := 0) hM1 (by omega) (by omega) (by omega) (by rw [mm_set_n (by omega)]; exact Nat.le_refl _) (by omega) (fun T2 L2 hM2 => ?_)
      rw [mm_set_n (m := m) (s := 17 + (4 * (tm_at (m 0) 0 - 70) + 2 * k)) (j := 17 + (4 * (tm_at (m 0) 0 - 70) + 2 * k + 1)) (by omega), mm_set_n (m := m) (s := 17 + (4 * (tm_at (m 0) 0 - 70) + 2 * k)) (j := 0) (by omega), ht2, List.nil_append, mm_tl (K := (m 0).length - (e + 1)) (by rw [List.length_drop]; exact Nat.le_refl _), mm_tl (K := 49) (by rw [List.length_drop]; omega)] at hM2
      have hM3 := mm_nil hM2 (s := 0) (by omega)
      refine nm_e (hO e k T2 _ _ hQ hFF hk hnil hM3 mm_set_s ?_ ?_ ?_)
      · rw [mm_set_n (by omega), mm_set_n (by omega), mm_set_s]
      · rw [mm_set_n (by omega), mm_set_s]
      · intro s s0 s1 s2
        rw [mm_set_n s0, mm_set_n s2, mm_set_n s1]
  · unfold wpX_judgeRule
    dsimp only
    exact br_f (by decide) (br_f (by decide) (nm_e (hS hno)))
theorem xp_conj {post : Int32 → St1 → Prop} (hW : iv_W n A Z q ng hy m) (hg : sg_X (tm_sg n A Z) ay gs so) (hM : mm_M 49 86 T L m)
    (hS : (∀ e, ¬ eq_Q (tm_sg n A Z) (m 0) e) → post (-1) (xn, nI q, xa, xg, T, upd L 0 0, ay, gs, so, E, B, pv, vl, el))
    (hF : ∀ e, eq_Q (tm_sg n A Z) (m 0) e → ¬ tm_FC (iv_R m) (m 0) → post (-2) (xn, nI q, xa, xg, T, upd L 0 0, ay, gs, so, E, B, pv, vl, el))
    (hU : ∀ e, eq_Q (tm_sg n A Z) (m 0) e → tm_FC (iv_R m) (m 0) → q = 8 → post (-4) (xn, nI q, xa, xg, T, upd L 0 0, ay, gs, so, E, B, pv, vl, el))
    (hO : ∀ e T' L' m', eq_Q (tm_sg n A Z) (m 0) e → tm_FC (iv_R m) (m 0) → q < 8 → mm_M 49 86 T' L' m' → m' 0 = [] → m' (1 + 2 * q) = (m 0).take e → m' (1 + 2 * q + 1) = (m 0).drop (e + 1) → m' 49 = (m 0).take e → m' 50 = (m 0).drop (e + 1) → m' 51 = [] → m' 52 = [] →
      (∀ s, s ≠ 0 → s ≠ 1 + 2 * q → s ≠ 1 + 2 * q + 1 → s ≠ 49 → s ≠ 50 → s ≠ 51 → s ≠ 52 → m' s = m s) → post (nI q) (xn, nI (q + 1), nI q, 1, T', L', ay, gs, so, E, B, pv, vl, el)) : wpX_conjecture post (xn, nI q, xa, xg, T, L, ay, gs, so, E, B, pv, vl, el) := by
  unfold wpX_conjecture
  dsimp only
  have h48 := hW.2.2.2.1
  refine xp_feq hW.1 hg hM h48 (fun e hQ => ?_) (fun hno => ?_)
  · have he := hQ.1
    refine xp_judgeC hW.2.1 hM he (fun hnF => ?_) (fun hFC hq8 => ?_) (fun hFC hq8 => ?_)
    · exact br_f (by decide) (nm_e (hF e hQ hnF))
    · exact br_f (by decide) (nm_e (hU e hQ hFC hq8))
    · refine br_t rfl ?_
      unfold wpX_enterFormula
      dsimp only
      rw [show (1 : Int32) + 2 * nI q = nI (1 + 2 * q) from by rw [show (2 : Int32) * nI q = nI (2 * q) from pk_mul 2 q]; exact nI_add 1 _]
      refine nm_e ?_
      have ht1 : m (1 + 2 * q) = [] := hW.2.2.2.2.1.2 (2 * q) (Nat.le_refl _) (by omega)
      have ht2 : m (1 + 2 * q + 1) = [] := hW.2.2.2.2.1.2 (2 * q + 1) (by omega) (by omega)
      refine xp_copySpan (s := 0) (start := 0) hM (by omega) (by omega) (by omega) (by omega) (Nat.zero_le _) (fun T1 L1 hM1 => ?_)
      rw [ht1, List.nil_append, List.drop_zero, Nat.sub_zero, mm_tl (K := 49) (by rw [List.length_take]; omega)] at hM1
      have hl1 := mm_len hM1 (s := 0) (by omega)
      rw [mm_set_n (by omega)] at hl1
      dsimp only
      rw [hl1, nI_1 (1 + 2 * q), nI_1 e]
      refine xp_copySpan (s := 0) hM1 (by omega) (by omega) (by omega) (by rw [mm_set_n (by omega)]; exact Nat.le_refl _) (by omega) (fun T2 L2 hM2 => ?_)
      rw [mm_set_n (m := m) (s := 1 + 2 * q) (j := 1 + 2 * q + 1) (by omega), mm_set_n (m := m) (s := 1 + 2 * q) (j := 0) (by omega), ht2, List.nil_append, mm_tl (K := (m 0).length - (e + 1)) (by rw [List.length_drop]; exact Nat.le_refl _), mm_tl (K := 49) (by rw [List.length_drop]; omega)] at hM2
      refine xp_copyText (t := 49) hM2 (by omega) (by omega) (by omega) (fun T3 L3 hM3 => ?_)
      rw [mm_set_n (m := mm_set m (1 + 2 * q) ((m 0).take e)) (s := 1 + 2 * q + 1) (j := 1 + 2 * q) (by omega), mm_set_s] at hM3
      refine xp_copyText (t := 50) hM3 (by omega) (by omega) (by omega) (fun T4 L4 hM4 => ?_)
      rw [mm_set_n (s := 49) (j := 1 + 2 * q + 1) (by omega), mm_set_s] at hM4
      have hM5 := mm_nil (mm_nil (mm_nil hM4 (s := 51) (by omega)) (s := 52) (by omega)) (s := 0) (by omega)
      refine nm_e (nm_e (nm_r (nI_1 q) (nm_e (hO e T4 _ _ hQ hFC hq8 hM5 mm_set_s ?_ ?_ ?_ ?_ ?_ ?_ ?_))))
      · rw [mm_set_n (by omega), mm_set_n (by omega), mm_set_n (by omega), mm_set_n (by omega), mm_set_n (by omega), mm_set_n (by omega), mm_set_s]
      · rw [mm_set_n (by omega), mm_set_n (by omega), mm_set_n (by omega), mm_set_n (by omega), mm_set_n (by omega), mm_set_s]
      · rw [mm_set_n (by omega), mm_set_n (by omega), mm_set_n (by omega), mm_set_n (by omega), mm_set_s]
      · rw [mm_set_n (by omega), mm_set_n (by omega), mm_set_n (by omega), mm_set_s]
      · rw [mm_set_n (by omega), mm_set_n (by omega), mm_set_s]
      · rw [mm_set_n (by omega), mm_set_s]
      · intro s s0 s1 s2 s3 s4 s5 s6
        rw [mm_set_n s0, mm_set_n s6, mm_set_n s5, mm_set_n s4, mm_set_n s3, mm_set_n s2, mm_set_n s1]
  · unfold wpX_judgeConjecture
    dsimp only
    exact br_f (by decide) (br_f (by decide) (nm_e (hS hno)))
theorem xp_normN {post : Int32 → St1 → Prop} (hS : tm_SG n A Z) (hR : tm_RU (tm_sg n A Z) (iv_R m)) (hg : sg_X (tm_sg n A Z) ay gs so) (hM : mm_M 49 86 T L m) {s : Nat} (hs : s < 83) (hs2 : 81 ≤ s) {S : List Nat} (hw : (m s).length ≤ 48 → tm_P (tm_sg n A Z) S (m s) ∧ tm_FC (iv_R m) (m s))
    (h1 : ∀ w', tm_N (tm_sg n A Z) (iv_R m) (m s) = some w' → ∀ T' L' E' B' m', mm_M 49 86 T' L' m' → m' s = w' → (∀ u, u ≠ s → u ≠ 83 → m' u = m u) → post 1 (xn, xq, xa, xg, T', L', ay, gs, so, E', B', pv, vl, el))
    (h0 : tm_N (tm_sg n A Z) (iv_R m) (m s) = none → ∀ T' L' E' B' m', mm_M 49 86 T' L' m' → (∀ u, u ≠ s → u ≠ 83 → m' u = m u) → post 0 (xn, xq, xa, xg, T', L', ay, gs, so, E', B', pv, vl, el)) : wpX_normalize post (xn, xq, xa, xg, T, L, ay, gs, so, E, B, pv, vl, el) (nI s) := by
  refine xp_norm (tm_sg_GS hS) hR hg (tm_ar_lt hS) hM hs hs2 hw (fun w' hl e => h1 w' ?_) (fun e => h0 ?_)
  · unfold tm_N
    rw [if_pos hl]
    exact e
  · unfold tm_N
    by_cases hl : (m s).length ≤ 48
    · rw [if_pos hl]
      exact e hl
    · rw [if_neg hl]
theorem xp_settle {post : Int32 → St1 → Prop} {k : Nat} (hk : k < 8) (hS : tm_SG n A Z) (hR : tm_RU (tm_sg n A Z) (iv_R m)) (hg : sg_X (tm_sg n A Z) ay gs so) (hM : mm_M 49 86 T L m) (hg0 : 1 ≤ ng) (hg8 : ng ≤ 8) {S1 S2 : List Nat} (hw1 : (m 81).length ≤ 48 → tm_P (tm_sg n A Z) S1 (m 81) ∧ tm_FC (iv_R m) (m 81)) (hw2 : (m 82).length ≤ 48 → tm_P (tm_sg n A Z) S2 (m 82) ∧ tm_FC (iv_R m) (m 82))
    (hL : tm_N (tm_sg n A Z) (iv_R m) (m 81) = none ∨ tm_N (tm_sg n A Z) (iv_R m) (m 82) = none → ∀ T' L' E' B' m', mm_M 49 86 T' L' m' → (∀ s, s < 81 → m' s = m s) → post (-7) (xn, xq, nI k, nI ng, T', L', ay, gs, so, E', B', pv, vl, el))
    (hO : ∀ u v T' L' E' B' m', tm_N (tm_sg n A Z) (iv_R m) (m 81) = some u → tm_N (tm_sg n A Z) (iv_R m) (m 82) = some v → mm_M 49 86 T' L' m' → m' (49 + 4 * (ng - 1)) = u → m' (49 + 4 * (ng - 1) + 1) = v → (∀ s, s < 81 → s ≠ 49 + 4 * (ng - 1) → s ≠ 49 + 4 * (ng - 1) + 1 → m' s = m s) →
      (u ≠ v → post (nI ng) (xn, xq, nI k, nI ng, T', L', ay, gs, so, E', B', pv, vl, el)) ∧ (u = v → ng = 1 → post 0 (xn, xq, -1, 0, T', L', ay, gs, so, E', B', upd pv k 1, vl, el)) ∧ (u = v → 1 < ng → post (nI (ng - 1)) (xn, xq, nI k, nI (ng - 1), T', L', ay, gs, so, E', B', pv, vl, el))) : wpX_settleTopGoal post (xn, xq, nI k, nI ng, T, L, ay, gs, so, E, B, pv, vl, el) := by
  unfold wpX_settleTopGoal
  dsimp only
  refine xp_normN (s := 81) hS hR hg hM (by omega) (by omega) hw1 (fun u hu T1 L1 E1 B1 m1 hM1 e1 f1 => ?_) (fun hu T1 L1 E1 B1 m1 hM1 f1 => ?_)
  · refine br_f (by decide) ?_
    have hR1 : ∀ i, i < 32 → iv_R m1 i = iv_R m i := fun i hi => f1 _ (by omega) (by omega)
    have e82 : m1 82 = m 82 := f1 82 (by omega) (by omega)
    refine xp_normN (s := 82) (S := S2) hS (iv_RU_mono (fun _ _ h => h) hR1 hR) hg hM1 (by omega) (by omega) ?_ ?_ ?_
    · rw [e82]
      exact fun hl => ⟨(hw2 hl).1, iv_FC_ext (iv_eqne hR1) (hw2 hl).2⟩
    · rw [tm_N_ext hR1, e82]
      intro v hv T2 L2 E2 B2 m2 hM2 e2 f2
      refine br_f (by decide) ?_
      refine xp_top hg0 hg8 ?_
      refine xp_copyText (s := 81) hM2 (by omega) (by omega) (by omega) (fun T3 L3 hM3 => ?_)
      rw [f2 81 (by omega) (by omega), e1] at hM3
      rw [nI_1]
      refine xp_copyText (s := 82) hM3 (by omega) (by omega) (by omega) (fun T4 L4 hM4 => ?_)
      rw [mm_set_n (j := 82) (by omega), e2] at hM4
      have q81 : mm_set (mm_set m2 (49 + 4 * (ng - 1)) u) (49 + 4 * (ng - 1) + 1) v 81 = u := by
        rw [mm_set_n (by omega), mm_set_n (by omega), f2 81 (by omega) (by omega), e1]
      have q82 : mm_set (mm_set m2 (49 + 4 * (ng - 1)) u) (49 + 4 * (ng - 1) + 1) v 82 = v := by
        rw [mm_set_n (by omega), mm_set_n (by omega), e2]
      obtain ⟨o1, o2, o3⟩ := hO u v T4 L4 E2 B2 _ hu hv hM4 (by rw [mm_set_n (by omega), mm_set_s]) mm_set_s (fun s s1 s2 s3 => by rw [mm_set_n s3, mm_set_n s2, f2 s (by omega) (by omega), f1 s (by omega) (by omega)])
      refine xp_sameT (a := 81) (b := 82) hM4 (by omega) (by omega) ?_ ?_
      · rw [q81, q82]
        intro e
        refine br_f (by decide) ?_
        unfold wpX_closeTopGoal
        dsimp only
        rw [xi_m1 hg0]
        refine nm_e (pk_eq (ng - 1) 0 (fun z => ?_) (fun z => ?_))
        · rw [nI_clamp (n := k) (by omega), z]
          exact ⟨vp_in_nI hk (by omega), nm_e (o2 e (by omega))⟩
        · exact o3 e (by omega)
      · rw [q81, q82]
        intro e
        exact br_t rfl (o1 e)
    · rw [tm_N_ext hR1, e82]
      intro hv T2 L2 E2 B2 m2 hM2 f2
      exact br_t rfl (hL (Or.inr hv) T2 L2 E2 B2 m2 hM2 (fun s hs => by rw [f2 s (by omega) (by omega), f1 s (by omega) (by omega)]))
  · exact br_t rfl (hL (Or.inl hu) T1 L1 E1 B1 m1 hM1 (fun s hs => f1 s (by omega) (by omega)))
theorem xp_replS {post : Int32 → St1 → Prop} (hS : tm_SG n A Z) (hg : sg_X (tm_sg n A Z) ay gs so) (hM : mm_M 49 86 T L m) (hg0 : 1 ≤ ng) (hg8 : ng ≤ 8) {f p : Nat} {pat : Bool} {px : Int32} (hf : f < 86) (hp : p < 86) (f1 : f ≠ 81) (f2 : f ≠ 82) (p1 : p ≠ 81) (p2 : p ≠ 82) (hpx : (pat = true ∧ ¬ px = 0) ∨ (pat = false ∧ px = 0))
    (h : ∀ T' L' E' B' m', mm_M 49 86 T' L' m' → m' 81 = (tm_R (tm_sg n A Z) pat (m (49 + 4 * (ng - 1))) (m f) (m p) 0).2.take 49 → m' 82 = (tm_R (tm_sg n A Z) pat (m (49 + 4 * (ng - 1) + 1)) (m f) (m p) 0).2.take 49 → (∀ s, s ≠ 81 → s ≠ 82 → m' s = m s) →
      post (nI ((tm_R (tm_sg n A Z) pat (m (49 + 4 * (ng - 1))) (m f) (m p) 0).1 + (tm_R (tm_sg n A Z) pat (m (49 + 4 * (ng - 1) + 1)) (m f) (m p) 0).1)) (xn, xq, xa, nI ng, T', L', ay, gs, so, E', B', pv, vl, el)) : wpX_replaceInSides post (xn, xq, xa, nI ng, T, L, ay, gs, so, E, B, pv, vl, el) (nI f) (nI p) px := by
  unfold wpX_replaceInSides
  dsimp only
  refine xp_top hg0 hg8 ?_
  refine xp_repl (t := 81) hg (tm_ar_lt hS) hM (by omega) (by omega) hf hp (by omega) f1 p1 hpx (fun T1 L1 E1 B1 hM1 => ?_)
  rw [nI_1]
  refine xp_repl (t := 82) hg (tm_ar_lt hS) hM1 (by omega) (by omega) hf hp (by omega) f2 p2 hpx (fun T2 L2 E2 B2 hM2 => ?_)
  rw [mm_set_n (m := m) (s := 81) (j := 49 + 4 * (ng - 1) + 1) (by omega), mm_set_n (m := m) (s := 81) (j := f) f1, mm_set_n (m := m) (s := 81) (j := p) p1] at hM2 ⊢
  rw [nI_add]
  refine h T2 L2 E2 B2 _ hM2 ?_ mm_set_s ?_
  · rw [mm_set_n (by omega), mm_set_s]
  · intro s s1 s2
    rw [mm_set_n s2, mm_set_n s1]
theorem xp_simp {post : Int32 → St1 → Prop} {k : Nat} (hk : k < 8) (hW : iv_W n A Z q ng hy m) (hg : sg_X (tm_sg n A Z) ay gs so) (hM : mm_M 49 86 T L m) (hg0 : 1 ≤ ng)
    (hL : tm_N (tm_sg n A Z) (iv_R m) (m (49 + 4 * (ng - 1))) = none ∨ tm_N (tm_sg n A Z) (iv_R m) (m (49 + 4 * (ng - 1) + 1)) = none → ∀ T' L' E' B' m', mm_M 49 86 T' L' m' → (∀ s, s < 81 → m' s = m s) → post (-7) (xn, xq, nI k, nI ng, T', L', ay, gs, so, E', B', pv, vl, el))
    (hO : ∀ u v T' L' E' B' m', tm_N (tm_sg n A Z) (iv_R m) (m (49 + 4 * (ng - 1))) = some u → tm_N (tm_sg n A Z) (iv_R m) (m (49 + 4 * (ng - 1) + 1)) = some v → mm_M 49 86 T' L' m' → m' (49 + 4 * (ng - 1)) = u → m' (49 + 4 * (ng - 1) + 1) = v → (∀ s, s < 81 → s ≠ 49 + 4 * (ng - 1) → s ≠ 49 + 4 * (ng - 1) + 1 → m' s = m s) →
      (u ≠ v → post (nI ng) (xn, xq, nI k, nI ng, T', L', ay, gs, so, E', B', pv, vl, el)) ∧ (u = v → ng = 1 → post 0 (xn, xq, -1, 0, T', L', ay, gs, so, E', B', upd pv k 1, vl, el)) ∧ (u = v → 1 < ng → post (nI (ng - 1)) (xn, xq, nI k, nI (ng - 1), T', L', ay, gs, so, E', B', pv, vl, el))) : wpX_simp post (xn, xq, nI k, nI ng, T, L, ay, gs, so, E, B, pv, vl, el) := by
  unfold wpX_simp
  dsimp only
  obtain ⟨hS, _, hg8, _, _, hWr, hWg⟩ := hW
  obtain ⟨⟨s, w1, w2, w3, w4, w5, w6⟩, _, _⟩ := hWg (ng - 1) (by omega)
  refine br_t (nI_pos' (by omega)) ?_
  refine xp_top hg0 hg8 ?_
  refine xp_copyText (t := 81) hM (by omega) (by omega) (by omega) (fun T1 L1 hM1 => ?_)
  rw [nI_1]
  refine xp_copyText (t := 82) hM1 (by omega) (by omega) (by omega) (fun T2 L2 hM2 => ?_)
  rw [mm_set_n (m := m) (j := 49 + 4 * (ng - 1) + 1) (by omega)] at hM2
  have e81 : mm_set (mm_set m 81 (m (49 + 4 * (ng - 1)))) 82 (m (49 + 4 * (ng - 1) + 1)) 81 = m (49 + 4 * (ng - 1)) := by rw [mm_set_n (by omega), mm_set_s]
  have e82 : mm_set (mm_set m 81 (m (49 + 4 * (ng - 1)))) 82 (m (49 + 4 * (ng - 1) + 1)) 82 = m (49 + 4 * (ng - 1) + 1) := mm_set_s
  have hfr : ∀ u, u < 81 → mm_set (mm_set m 81 (m (49 + 4 * (ng - 1)))) 82 (m (49 + 4 * (ng - 1) + 1)) u = m u := fun u hu => by rw [mm_set_n (by omega), mm_set_n (by omega)]
  have hR1 : ∀ i, i < 32 → iv_R (mm_set (mm_set m 81 (m (49 + 4 * (ng - 1)))) 82 (m (49 + 4 * (ng - 1) + 1))) i = iv_R m i := fun i hi => hfr _ (by omega)
  refine xp_settle (S1 := [s]) (S2 := [s]) hk hS (iv_RU_mono (fun _ _ h => h) hR1 hWr.1) hg hM2 hg0 hg8 ?_ ?_ ?_ ?_
  · rw [e81]
    exact fun _ => ⟨w1, iv_FC_ext (iv_eqne hR1) w3⟩
  · rw [e82]
    exact fun _ => ⟨w2, iv_FC_ext (iv_eqne hR1) w4⟩
  · rw [e81, e82, tm_N_ext hR1, tm_N_ext hR1]
    intro h T' L' E' B' m' hM' hf'
    exact hL h T' L' E' B' m' hM' (fun s hs => by rw [hf' s hs, hfr s hs])
  · rw [e81, e82, tm_N_ext hR1, tm_N_ext hR1]
    intro u v T' L' E' B' m' hu hv hM' h1 h2 hf'
    exact hO u v T' L' E' B' m' hu hv hM' h1 h2 (fun s hs s1 s2 => by rw [hf' s hs s1 s2, hfr s hs])
end XF
end
section
/-! 16: the class: useHyp, useLemma, generalize -/
theorem tm_R_cto {g : tm_G} {pat : Bool} {w fr to to' : List Nat} : ∀ d i, w.length - i ≤ d → (tm_R g pat w fr to i).1 = (tm_R g pat w fr to' i).1 := by
  intro d
  induction d with
  | zero =>
    intro i h
    rw [tm_R_out (by omega), tm_R_out (by omega)]
  | succ d ih =>
    intro i h
    by_cases hi : i < w.length
    · have he := tm_e_gt g hi
      cases hm : tm_mt g pat w fr i (fun _ => none) with
      | some r =>
        rw [tm_R_hit hi hm, tm_R_hit hi hm]
        dsimp only
        rw [ih (tm_e g w i) (by omega)]
      | none =>
        rw [tm_R_miss hi hm, tm_R_miss hi hm]
        dsimp only
        rw [ih (i + 1) (by omega)]
    · rw [tm_R_out (by omega), tm_R_out (by omega)]
theorem tm_head {g : tm_G} (hv : tm_V g) {s : Nat} {w : List Nat} (hP : tm_P g [s] w) (hn : ¬ (w.length = 1 ∧ tm_vn (tm_at w 0) ≠ none)) : ∃ c p, w = c :: p ∧ tm_vn c = none := by
  cases w with
  | nil => exact absurd hP (fun z => nomatch (show [s] = [] from z))
  | cons c p =>
    refine ⟨c, p, rfl, ?_⟩
    cases hc : tm_vn c with
    | none => rfl
    | some v =>
      exfalso
      apply hn
      obtain ⟨a, s2, S2, hg, hS, hP2⟩ := hP
      obtain ⟨s3, hg3⟩ := hv c v hc
      rw [hg] at hg3
      obtain ⟨rfl, _⟩ := Prod.mk.inj (Option.some.inj hg3)
      obtain ⟨_, rfl⟩ := List.cons.inj hS
      have := tm_P_len' hP2
      rw [List.append_nil, List.length_nil, tm_en_0] at this
      refine ⟨by rw [List.length_cons, ← this], ?_⟩
      show tm_vn c ≠ none
      rw [hc]
      exact Option.some_ne_none v
theorem iv_Rok {g : tm_G} {R : Nat → List Nat} {pat : Bool} {w fr to : List Nat} {s s2 : Nat} (hv : tm_V g) (hP : tm_P g [s] w) (hF : tm_FC R w) (hf : tm_P g [s2] fr) (ht : tm_P g [s2] to) (hFt : tm_FC R to) (hh : pat = false ∨ ¬ (fr.length = 1 ∧ tm_vn (tm_at fr 0) ≠ none)) : tm_P g [s] (tm_R g pat w fr to 0).2 ∧ tm_FC R (tm_R g pat w fr to 0).2 := by
  constructor
  · rcases hh with hh | hh
    · cases fr with
      | nil => exact absurd hf (fun z => nomatch (show [s2] = [] from z))
      | cons c p => exact tm_R_ty hv hf ht (Or.inl hh) w.length 0 [s] (Nat.sub_le _ _) (by rw [List.drop_zero]; exact hP)
    · obtain ⟨c, p, rfl, hc⟩ := tm_head hv hf hh
      exact tm_R_ty hv hf ht (Or.inr hc) w.length 0 [s] (Nat.sub_le _ _) (by rw [List.drop_zero]; exact hP)
  · intro c hc hcf
    rcases tm_R_mem w.length 0 (Nat.sub_le _ _) hc with h | h
    · exact hFt c h hcf
    · exact hF c h hcf
section XG
variable {xn xq xa xg : Int32} {T L ay gs so E B pv vl el : Nat → Int32} {m : Nat → List Nat} {n q ng : Nat} {A : Nat → List Nat} {Z : Nat → Nat} {hy : Nat → Bool}
theorem xp_fin {post : Int32 → St1 → Prop} {k : Nat} {m0 : Nat → List Nat} {l r : List Nat} (hk : k < 8) (hS : tm_SG n A Z) (hR : tm_RU (tm_sg n A Z) (iv_R m)) (hg : sg_X (tm_sg n A Z) ay gs so) (hM : mm_M 49 86 T L m0) (hg0 : 1 ≤ ng) (hg8 : ng ≤ 8) (e1 : m0 81 = l.take 49) (e2 : m0 82 = r.take 49) (hfr : ∀ s, s ≠ 81 → s ≠ 82 → m0 s = m s) {s1 s2 : Nat} (w1 : tm_P (tm_sg n A Z) [s1] l ∧ tm_FC (iv_R m) l) (w2 : tm_P (tm_sg n A Z) [s2] r ∧ tm_FC (iv_R m) r)
    (hL : tm_N (tm_sg n A Z) (iv_R m) l = none ∨ tm_N (tm_sg n A Z) (iv_R m) r = none → ∀ T' L' E' B' m', mm_M 49 86 T' L' m' → (∀ s, s < 81 → m' s = m s) → post (-7) (xn, xq, nI k, nI ng, T', L', ay, gs, so, E', B', pv, vl, el))
    (hO : ∀ u v T' L' E' B' m', tm_N (tm_sg n A Z) (iv_R m) l = some u → tm_N (tm_sg n A Z) (iv_R m) r = some v → mm_M 49 86 T' L' m' → m' (49 + 4 * (ng - 1)) = u → m' (49 + 4 * (ng - 1) + 1) = v → (∀ s, s < 81 → s ≠ 49 + 4 * (ng - 1) → s ≠ 49 + 4 * (ng - 1) + 1 → m' s = m s) →
      (u ≠ v → post (nI ng) (xn, xq, nI k, nI ng, T', L', ay, gs, so, E', B', pv, vl, el)) ∧ (u = v → ng = 1 → post 0 (xn, xq, -1, 0, T', L', ay, gs, so, E', B', upd pv k 1, vl, el)) ∧ (u = v → 1 < ng → post (nI (ng - 1)) (xn, xq, nI k, nI (ng - 1), T', L', ay, gs, so, E', B', pv, vl, el))) : wpX_settleTopGoal post (xn, xq, nI k, nI ng, T, L, ay, gs, so, E, B, pv, vl, el) := by
  have hR1 : ∀ i, i < 32 → iv_R m0 i = iv_R m i := fun i hi => hfr _ (by omega) (by omega)
  refine xp_settle (S1 := [s1]) (S2 := [s2]) hk hS (iv_RU_mono (fun _ _ h => h) hR1 hR) hg hM hg0 hg8 ?_ ?_ ?_ ?_
  · rw [e1]
    intro hl
    rw [List.length_take] at hl
    rw [mm_tl (by omega)]
    exact ⟨w1.1, iv_FC_ext (iv_eqne hR1) w1.2⟩
  · rw [e2]
    intro hl
    rw [List.length_take] at hl
    rw [mm_tl (by omega)]
    exact ⟨w2.1, iv_FC_ext (iv_eqne hR1) w2.2⟩
  · rw [e1, e2, tm_N_ext hR1, tm_N_ext hR1, tm_N_take, tm_N_take]
    intro h T' L' E' B' m' hM' hf'
    exact hL h T' L' E' B' m' hM' (fun s hs => by rw [hf' s hs, hfr s (by omega) (by omega)])
  · rw [e1, e2, tm_N_ext hR1, tm_N_ext hR1, tm_N_take, tm_N_take]
    intro u v T' L' E' B' m' hu hv hM' h1 h2 hf'
    exact hO u v T' L' E' B' m' hu hv hM' h1 h2 (fun s hs a b => by rw [hf' s hs a b, hfr s (by omega) (by omega)])
theorem xp_useHyp {post : Int32 → St1 → Prop} {k f p : Nat} {x1 : Int32} (hk : k < 8) (hW : iv_W n A Z q ng hy m) (hg : sg_X (tm_sg n A Z) ay gs so) (hM : mm_M 49 86 T L m) (hg0 : 1 ≤ ng) (hfp : (f = 49 + 4 * (ng - 1) + 2 ∧ p = 49 + 4 * (ng - 1) + 3 ∧ x1 = 0) ∨ (f = 49 + 4 * (ng - 1) + 3 ∧ p = 49 + 4 * (ng - 1) + 2 ∧ x1 = 1))
    (hH : hy (ng - 1) = false → post (-5) (xn, xq, nI k, nI ng, T, L, ay, gs, so, E, B, pv, vl, el))
    (hN : hy (ng - 1) = true → (tm_R (tm_sg n A Z) false (m (49 + 4 * (ng - 1))) (m f) (m p) 0).1 + (tm_R (tm_sg n A Z) false (m (49 + 4 * (ng - 1) + 1)) (m f) (m p) 0).1 = 0 → ∀ T' L' E' B' m', mm_M 49 86 T' L' m' → (∀ s, s < 81 → m' s = m s) → post (-8) (xn, xq, nI k, nI ng, T', L', ay, gs, so, E', B', pv, vl, el))
    (hL : hy (ng - 1) = true → (tm_R (tm_sg n A Z) false (m (49 + 4 * (ng - 1))) (m f) (m p) 0).1 + (tm_R (tm_sg n A Z) false (m (49 + 4 * (ng - 1) + 1)) (m f) (m p) 0).1 ≠ 0 → tm_N (tm_sg n A Z) (iv_R m) (tm_R (tm_sg n A Z) false (m (49 + 4 * (ng - 1))) (m f) (m p) 0).2 = none ∨ tm_N (tm_sg n A Z) (iv_R m) (tm_R (tm_sg n A Z) false (m (49 + 4 * (ng - 1) + 1)) (m f) (m p) 0).2 = none → ∀ T' L' E' B' m', mm_M 49 86 T' L' m' → (∀ s, s < 81 → m' s = m s) → post (-7) (xn, xq, nI k, nI ng, T', L', ay, gs, so, E', B', pv, vl, el))
    (hO : hy (ng - 1) = true → (tm_R (tm_sg n A Z) false (m (49 + 4 * (ng - 1))) (m f) (m p) 0).1 + (tm_R (tm_sg n A Z) false (m (49 + 4 * (ng - 1) + 1)) (m f) (m p) 0).1 ≠ 0 → ∀ u v T' L' E' B' m', tm_N (tm_sg n A Z) (iv_R m) (tm_R (tm_sg n A Z) false (m (49 + 4 * (ng - 1))) (m f) (m p) 0).2 = some u → tm_N (tm_sg n A Z) (iv_R m) (tm_R (tm_sg n A Z) false (m (49 + 4 * (ng - 1) + 1)) (m f) (m p) 0).2 = some v → mm_M 49 86 T' L' m' → m' (49 + 4 * (ng - 1)) = u → m' (49 + 4 * (ng - 1) + 1) = v → (∀ s, s < 81 → s ≠ 49 + 4 * (ng - 1) → s ≠ 49 + 4 * (ng - 1) + 1 → m' s = m s) →
      (u ≠ v → post (nI ng) (xn, xq, nI k, nI ng, T', L', ay, gs, so, E', B', pv, vl, el)) ∧ (u = v → ng = 1 → post 0 (xn, xq, -1, 0, T', L', ay, gs, so, E', B', upd pv k 1, vl, el)) ∧ (u = v → 1 < ng → post (nI (ng - 1)) (xn, xq, nI k, nI (ng - 1), T', L', ay, gs, so, E', B', pv, vl, el))) : wX_useHyp_22 post x1 xn xq (nI k) (nI ng) T L ay gs so E B pv vl el := by
  unfold wX_useHyp_22
  obtain ⟨hS, _, hg8, _, _, hWr, hWg⟩ := hW
  obtain ⟨⟨s, w1, w2, w3, w4, w5, w6⟩, hyt, hyf⟩ := hWg (ng - 1) (by omega)
  refine xp_top hg0 hg8 ?_
  rw [show nI (49 + 4 * (ng - 1)) + 2 = nI (49 + 4 * (ng - 1) + 2) from nI_add _ 2]
  have hs2 : 49 + 4 * (ng - 1) + 2 < 86 := by omega
  have hl2 := mm_le hM hs2
  refine nm_e ⟨vp_in_nI hs2 (by omega), ?_⟩
  rw [nI_clamp (n := 49 + 4 * (ng - 1) + 2) (by omega), mm_len hM hs2]
  cases hyv : hy (ng - 1) with
  | false =>
    rw [(hyf hyv).1]
    exact br_t rfl (hH hyv)
  | true =>
    obtain ⟨sh, v1, v2, v3, v4, v5, v6⟩ := hyt hyv
    have hpos := tm_P_ne v1
    refine br_f (nI_ne0 hpos (by omega)) ?_
    have ef : nI (49 + 4 * (ng - 1) + 2) + x1 = nI f := by
      rcases hfp with ⟨rfl, rfl, rfl⟩ | ⟨rfl, rfl, rfl⟩
      · exact nI_add _ 0
      · exact nI_1 _
    have ep : nI (49 + 4 * (ng - 1) + 2) + 1 - x1 = nI p := by
      rw [nI_1]
      rcases hfp with ⟨rfl, rfl, rfl⟩ | ⟨rfl, rfl, rfl⟩
      · exact pk_sub (b := 0) (by omega)
      · exact pk_sub (b := 1) (by omega)
    rw [ef, ep]
    have hPf : ∃ sf, tm_P (tm_sg n A Z) [sf] (m f) ∧ tm_P (tm_sg n A Z) [sf] (m p) ∧ tm_FC (iv_R m) (m p) := by
      rcases hfp with ⟨rfl, rfl, _⟩ | ⟨rfl, rfl, _⟩
      · exact ⟨sh, v1, v2, v4⟩
      · exact ⟨sh, v2, v1, v3⟩
    obtain ⟨sf, q1, q2, q3⟩ := hPf
    have hV := (tm_sg_GS hS).1
    refine xp_replS (pat := false) hS hg hM hg0 hg8 (by omega) (by omega) (by omega) (by omega) (by omega) (by omega) (Or.inr ⟨rfl, rfl⟩) (fun T1 L1 E1 B1 m1 hM1 a1 a2 a3 => ?_)
    have c1 := tm_R_cnt (g := tm_sg n A Z) (pat := false) (w := m (49 + 4 * (ng - 1))) (fr := m f) (to := m p) _ 0 (Nat.le_refl _)
    have c2 := tm_R_cnt (g := tm_sg n A Z) (pat := false) (w := m (49 + 4 * (ng - 1) + 1)) (fr := m f) (to := m p) _ 0 (Nat.le_refl _)
    refine pk_eq ((tm_R (tm_sg n A Z) false (m (49 + 4 * (ng - 1))) (m f) (m p) 0).1 + (tm_R (tm_sg n A Z) false (m (49 + 4 * (ng - 1) + 1)) (m f) (m p) 0).1) 0 (fun z => hN hyv z T1 L1 E1 B1 m1 hM1 (fun s hs => a3 s (by omega) (by omega))) (fun z => ?_)
    exact xp_fin hk hS hWr.1 hg hM1 hg0 hg8 a1 a2 a3 (iv_Rok hV w1 w3 q1 q2 q3 (Or.inl rfl)) (iv_Rok hV w2 w4 q1 q2 q3 (Or.inl rfl)) (hL hyv z) (hO hyv z)
theorem xp_useLem {post : Int32 → St1 → Prop} {k kk f p : Nat} {x2 : Int32} (hk : k < 8) (hW : iv_W n A Z q ng hy m) (hg : sg_X (tm_sg n A Z) ay gs so) (hM : mm_M 49 86 T L m) (hg0 : 1 ≤ ng) (hkk : kk < q) (hfp : (f = 1 + 2 * kk ∧ p = 1 + 2 * kk + 1 ∧ x2 = 0) ∨ (f = 1 + 2 * kk + 1 ∧ p = 1 + 2 * kk ∧ x2 = 1))
    (hF : ((m f).length = 1 ∧ tm_vn (tm_at (m f) 0) ≠ none) ∨ ¬ (∀ v, v < 16 → tm_vc v ∈ m p → tm_vc v ∈ m f) → post (-2) (xn, xq, nI k, nI ng, T, L, ay, gs, so, E, B, pv, vl, el))
    (hN : ¬ ((m f).length = 1 ∧ tm_vn (tm_at (m f) 0) ≠ none) → (∀ v, v < 16 → tm_vc v ∈ m p → tm_vc v ∈ m f) → (tm_R (tm_sg n A Z) true (m (49 + 4 * (ng - 1))) (m f) (m p) 0).1 + (tm_R (tm_sg n A Z) true (m (49 + 4 * (ng - 1) + 1)) (m f) (m p) 0).1 = 0 → ∀ T' L' E' B' m', mm_M 49 86 T' L' m' → (∀ s, s < 81 → m' s = m s) → post (-8) (xn, xq, nI k, nI ng, T', L', ay, gs, so, E', B', pv, vl, el))
    (hL : ¬ ((m f).length = 1 ∧ tm_vn (tm_at (m f) 0) ≠ none) → (∀ v, v < 16 → tm_vc v ∈ m p → tm_vc v ∈ m f) → (tm_R (tm_sg n A Z) true (m (49 + 4 * (ng - 1))) (m f) (m p) 0).1 + (tm_R (tm_sg n A Z) true (m (49 + 4 * (ng - 1) + 1)) (m f) (m p) 0).1 ≠ 0 → tm_N (tm_sg n A Z) (iv_R m) (tm_R (tm_sg n A Z) true (m (49 + 4 * (ng - 1))) (m f) (m p) 0).2 = none ∨ tm_N (tm_sg n A Z) (iv_R m) (tm_R (tm_sg n A Z) true (m (49 + 4 * (ng - 1) + 1)) (m f) (m p) 0).2 = none → ∀ T' L' E' B' m', mm_M 49 86 T' L' m' → (∀ s, s < 81 → m' s = m s) → post (-7) (xn, xq, nI k, nI ng, T', L', ay, gs, so, E', B', pv, vl, el))
    (hO : ¬ ((m f).length = 1 ∧ tm_vn (tm_at (m f) 0) ≠ none) → (∀ v, v < 16 → tm_vc v ∈ m p → tm_vc v ∈ m f) → (tm_R (tm_sg n A Z) true (m (49 + 4 * (ng - 1))) (m f) (m p) 0).1 + (tm_R (tm_sg n A Z) true (m (49 + 4 * (ng - 1) + 1)) (m f) (m p) 0).1 ≠ 0 → ∀ u v T' L' E' B' m', tm_N (tm_sg n A Z) (iv_R m) (tm_R (tm_sg n A Z) true (m (49 + 4 * (ng - 1))) (m f) (m p) 0).2 = some u → tm_N (tm_sg n A Z) (iv_R m) (tm_R (tm_sg n A Z) true (m (49 + 4 * (ng - 1) + 1)) (m f) (m p) 0).2 = some v → mm_M 49 86 T' L' m' → m' (49 + 4 * (ng - 1)) = u → m' (49 + 4 * (ng - 1) + 1) = v → (∀ s, s < 81 → s ≠ 49 + 4 * (ng - 1) → s ≠ 49 + 4 * (ng - 1) + 1 → m' s = m s) →
      (u ≠ v → post (nI ng) (xn, xq, nI k, nI ng, T', L', ay, gs, so, E', B', pv, vl, el)) ∧ (u = v → ng = 1 → post 0 (xn, xq, -1, 0, T', L', ay, gs, so, E', B', upd pv k 1, vl, el)) ∧ (u = v → 1 < ng → post (nI (ng - 1)) (xn, xq, nI k, nI (ng - 1), T', L', ay, gs, so, E', B', pv, vl, el))) : wX_useLemma_44 post (nI kk) x2 xn xq (nI k) (nI ng) T L ay gs so E B pv vl el := by
  unfold wX_useLemma_44
  obtain ⟨hS, hq8, hg8, _, hWf, hWr, hWg⟩ := hW
  obtain ⟨⟨s, w1, w2, w3, w4, w5, w6⟩, hyt, hyf⟩ := hWg (ng - 1) (by omega)
  obtain ⟨sh, v1, v2, v3, v4, v5, v6⟩ := hWf.1 kk hkk
  have hV := (tm_sg_GS hS).1
  rw [show (1 : Int32) + 2 * nI kk = nI (1 + 2 * kk) from by rw [show (2 : Int32) * nI kk = nI (2 * kk) from pk_mul 2 kk]; exact nI_add 1 _]
  have ef : nI (1 + 2 * kk) + x2 = nI f := by
    rcases hfp with ⟨rfl, rfl, rfl⟩ | ⟨rfl, rfl, rfl⟩
    · exact nI_add _ 0
    · exact nI_1 _
  have ep : nI (1 + 2 * kk) + 1 - x2 = nI p := by
    rw [nI_1]
    rcases hfp with ⟨rfl, rfl, rfl⟩ | ⟨rfl, rfl, rfl⟩
    · exact pk_sub (b := 0) (by omega)
    · exact pk_sub (b := 1) (by omega)
  have hPf : ∃ sf, tm_P (tm_sg n A Z) [sf] (m f) ∧ tm_P (tm_sg n A Z) [sf] (m p) ∧ tm_FC (iv_R m) (m p) := by
    rcases hfp with ⟨rfl, rfl, _⟩ | ⟨rfl, rfl, _⟩
    · exact ⟨sh, v1, v2, v4⟩
    · exact ⟨sh, v2, v1, v3⟩
  obtain ⟨sf, q1, q2, q3⟩ := hPf
  refine nm_e (nm_r ef (nm_r ep ?_))
  refine xp_varsOf hM (by omega) (fun k1 s1 => ?_)
  refine xp_varsOf hM (by omega) (fun k2 s2 => ?_)
  have hd := vz_diff s1 s2
  refine nm_e ?_
  refine xp_single hM (by omega) (fun z1 z2 => br_f (by decide) (hF (Or.inl ⟨z1, z2⟩))) (fun hns => br_t rfl ?_)
  by_cases hsub : ∀ v, v < 16 → tm_vc v ∈ m p → tm_vc v ∈ m f
  · refine br_t (hd.mpr hsub) ?_
    refine xp_replS (pat := true) hS hg hM hg0 hg8 (by omega) (by omega) (by omega) (by omega) (by omega) (by omega) (Or.inl ⟨rfl, by decide⟩) (fun T1 L1 E1 B1 m1 hM1 a1 a2 a3 => ?_)
    have c1 := tm_R_cnt (g := tm_sg n A Z) (pat := true) (w := m (49 + 4 * (ng - 1))) (fr := m f) (to := m p) _ 0 (Nat.le_refl _)
    have c2 := tm_R_cnt (g := tm_sg n A Z) (pat := true) (w := m (49 + 4 * (ng - 1) + 1)) (fr := m f) (to := m p) _ 0 (Nat.le_refl _)
    refine pk_eq ((tm_R (tm_sg n A Z) true (m (49 + 4 * (ng - 1))) (m f) (m p) 0).1 + (tm_R (tm_sg n A Z) true (m (49 + 4 * (ng - 1) + 1)) (m f) (m p) 0).1) 0 (fun z => hN hns hsub z T1 L1 E1 B1 m1 hM1 (fun s hs => a3 s (by omega) (by omega))) (fun z => ?_)
    exact xp_fin hk hS hWr.1 hg hM1 hg0 hg8 a1 a2 a3 (iv_Rok hV w1 w3 q1 q2 q3 (Or.inr hns)) (iv_Rok hV w2 w4 q1 q2 q3 (Or.inr hns)) (hL hns hsub z) (hO hns hsub z)
  · exact br_f (fun z => hsub (hd.mp z)) (hF (Or.inr hsub))
end XG
end
section
/-! 17: the class: generalize, induct, evaluate -/
def fr_p (m : Nat → List Nat) (s0 v : Nat) : Prop := tm_vc v ∈ m s0 ∨ tm_vc v ∈ m (s0 + 1) ∨ tm_vc v ∈ m (s0 + 2) ∨ tm_vc v ∈ m (s0 + 3)
def tm_to (v h : Nat) : List Nat := if v < 8 then [83, tm_vc v] else [67, tm_vc h, tm_vc v]
def tm_ba (v : Nat) : List Nat := if v < 8 then [90] else [78]
theorem tm_vc_lt {v : Nat} (h : v < 16) : tm_vc v < 256 := by
  unfold tm_vc
  split <;> omega
def ev_X (val : Nat → Nat) (e2 : Nat → Nat → Nat) (vl el : Nat → Int32) : Prop := ∀ v, v < 16 → vl v = nI (val v) ∧ val v ≤ 7 ∧ (8 ≤ v → val v ≤ 4 ∧ ∀ i, i < val v → e2 v i ≤ 3 ∧ (el v >>> (nI (4 * i) &&& 31)) &&& 15 = nI (e2 v i))
section XH
variable {xn xq xa xg : Int32} {T L ay gs so E B pv vl el : Nat → Int32} {m : Nat → List Nat} {n q ng : Nat} {A : Nat → List Nat} {Z : Nat → Nat} {hy : Nat → Bool}
theorem xp_gen87 {post : Int32 → St1 → Prop} {x2 : Int32} {t : List Nat} (hS : tm_SG n A Z) (hg : sg_X (tm_sg n A Z) ay gs so) (hM : mm_M 49 86 T L m) (hg0 : 1 ≤ ng) (hg8 : ng ≤ 8) (ht : m 84 = t) (hl : (m (49 + 4 * (ng - 1))).length ≤ 48) (hr : (m (49 + 4 * (ng - 1) + 1)).length ≤ 48) (hto : x2 < 0 ∨ (m 85).length = 1)
    (hN : (tm_R (tm_sg n A Z) false (m (49 + 4 * (ng - 1))) t t 0).1 + (tm_R (tm_sg n A Z) false (m (49 + 4 * (ng - 1) + 1)) t t 0).1 = 0 → ∀ T' L' E' B' m', mm_M 49 86 T' L' m' → (∀ s, s < 81 → m' s = m s) → post (-8) (xn, xq, xa, nI ng, T', L', ay, gs, so, E', B', pv, vl, el))
    (hU : (tm_R (tm_sg n A Z) false (m (49 + 4 * (ng - 1))) t t 0).1 + (tm_R (tm_sg n A Z) false (m (49 + 4 * (ng - 1) + 1)) t t 0).1 ≠ 0 → x2 < 0 → ∀ T' L' E' B' m', mm_M 49 86 T' L' m' → (∀ s, s < 81 → m' s = m s) → post (-4) (xn, xq, xa, nI ng, T', L', ay, gs, so, E', B', pv, vl, el))
    (hO : (tm_R (tm_sg n A Z) false (m (49 + 4 * (ng - 1))) t t 0).1 + (tm_R (tm_sg n A Z) false (m (49 + 4 * (ng - 1) + 1)) t t 0).1 ≠ 0 → ¬ x2 < 0 → ∀ T' L' E' B' m', mm_M 49 86 T' L' m' → m' (49 + 4 * (ng - 1)) = (tm_R (tm_sg n A Z) false (m (49 + 4 * (ng - 1))) t (m 85) 0).2 → m' (49 + 4 * (ng - 1) + 1) = (tm_R (tm_sg n A Z) false (m (49 + 4 * (ng - 1) + 1)) t (m 85) 0).2 → (∀ s, s < 81 → s ≠ 49 + 4 * (ng - 1) → s ≠ 49 + 4 * (ng - 1) + 1 → m' s = m s) → post (nI ng) (xn, xq, xa, nI ng, T', L', ay, gs, so, E', B', pv, vl, el)) : wX_generalize_87 post x2 xn xq xa (nI ng) T L ay gs so E B pv vl el := by
  unfold wX_generalize_87
  refine xp_replS (f := 84) (p := 85) (pat := false) hS hg hM hg0 hg8 (by omega) (by omega) (by omega) (by omega) (by omega) (by omega) (Or.inr ⟨rfl, rfl⟩) (fun T1 L1 E1 B1 m1 hM1 a1 a2 a3 => ?_)
  rw [ht] at a1 a2 ⊢
  have c1 := tm_R_cnt (g := tm_sg n A Z) (pat := false) (w := m (49 + 4 * (ng - 1))) (fr := t) (to := m 85) _ 0 (Nat.le_refl _)
  have c2 := tm_R_cnt (g := tm_sg n A Z) (pat := false) (w := m (49 + 4 * (ng - 1) + 1)) (fr := t) (to := m 85) _ 0 (Nat.le_refl _)
  have d1 := tm_R_cto (g := tm_sg n A Z) (pat := false) (w := m (49 + 4 * (ng - 1))) (fr := t) (to := m 85) (to' := t) _ 0 (Nat.le_refl _)
  have d2 := tm_R_cto (g := tm_sg n A Z) (pat := false) (w := m (49 + 4 * (ng - 1) + 1)) (fr := t) (to := m 85) (to' := t) _ 0 (Nat.le_refl _)
  rw [d1] at c1
  rw [d2] at c2
  rw [d1, d2]
  refine pk_eq ((tm_R (tm_sg n A Z) false (m (49 + 4 * (ng - 1))) t t 0).1 + (tm_R (tm_sg n A Z) false (m (49 + 4 * (ng - 1) + 1)) t t 0).1) 0 (fun z => hN z T1 L1 E1 B1 m1 hM1 (fun s hs => a3 s (by omega) (by omega))) (fun z => ?_)
  by_cases hx : x2 < 0
  · exact br_f (Int32.not_le.mpr hx) (hU z hx T1 L1 E1 B1 m1 hM1 (fun s hs => a3 s (by omega) (by omega)))
  · refine br_t (Int32.not_lt.mp hx) ?_
    have h1 : (m 85).length = 1 := by
      rcases hto with h | h
      · exact absurd h hx
      · exact h
    have l1 := tm_R_len1 (g := tm_sg n A Z) (w := m (49 + 4 * (ng - 1))) (fr := t) h1 _ 0 (Nat.le_refl _)
    have l2 := tm_R_len1 (g := tm_sg n A Z) (w := m (49 + 4 * (ng - 1) + 1)) (fr := t) h1 _ 0 (Nat.le_refl _)
    rw [mm_tl (by omega)] at a1 a2
    refine xp_top hg0 hg8 ?_
    refine xp_copyText (s := 81) hM1 (by omega) (by omega) (by omega) (fun T3 L3 hM3 => ?_)
    rw [nI_1]
    refine xp_copyText (s := 82) hM3 (by omega) (by omega) (by omega) (fun T4 L4 hM4 => ?_)
    rw [mm_set_n (j := 82) (by omega), a1, a2] at hM4
    refine hO z hx T4 L4 E1 B1 _ hM4 ?_ mm_set_s ?_
    · rw [mm_set_n (by omega), mm_set_s]
    · intro s s1 s2 s3
      rw [mm_set_n s3, mm_set_n s2, a3 s (by omega) (by omega)]
theorem xp_gen {post : Int32 → St1 → Prop} (hW : iv_W n A Z q ng hy m) (hg : sg_X (tm_sg n A Z) ay gs so) (hM : mm_M 49 86 T L m) (hact : (xa = -1) ∨ (∃ k, k < 8 ∧ xa = nI k ∧ 1 ≤ ng))
    (hA : xa = -1 → ∀ T' L' E' B' m', mm_M 49 86 T' L' m' → m' 0 = [] → (∀ s, 1 ≤ s → s < 81 → m' s = m s) → post (-5) (xn, xq, xa, nI ng, T', L', ay, gs, so, E', B', pv, vl, el))
    (hSy : xa ≠ -1 → tm_ts (tm_sg n A Z) (m 0) = none → ∀ T' L' E' B' m', mm_M 49 86 T' L' m' → m' 0 = [] → (∀ s, 1 ≤ s → s < 81 → m' s = m s) → post (-1) (xn, xq, xa, nI ng, T', L', ay, gs, so, E', B', pv, vl, el))
    (hF : ∀ sv, xa ≠ -1 → tm_ts (tm_sg n A Z) (m 0) = some sv → (m 0).length = 1 ∧ tm_vn (tm_at (m 0) 0) ≠ none → ∀ T' L' E' B' m', mm_M 49 86 T' L' m' → m' 0 = [] → (∀ s, 1 ≤ s → s < 81 → m' s = m s) → post (-2) (xn, xq, xa, nI ng, T', L', ay, gs, so, E', B', pv, vl, el))
    (hN : ∀ sv, xa ≠ -1 → tm_ts (tm_sg n A Z) (m 0) = some sv → ¬ ((m 0).length = 1 ∧ tm_vn (tm_at (m 0) 0) ≠ none) → (tm_R (tm_sg n A Z) false (m (49 + 4 * (ng - 1))) (m 0) (m 0) 0).1 + (tm_R (tm_sg n A Z) false (m (49 + 4 * (ng - 1) + 1)) (m 0) (m 0) 0).1 = 0 → ∀ T' L' E' B' m', mm_M 49 86 T' L' m' → m' 0 = [] → (∀ s, 1 ≤ s → s < 81 → m' s = m s) → post (-8) (xn, xq, xa, nI ng, T', L', ay, gs, so, E', B', pv, vl, el))
    (hU : ∀ sv, xa ≠ -1 → tm_ts (tm_sg n A Z) (m 0) = some sv → ¬ ((m 0).length = 1 ∧ tm_vn (tm_at (m 0) 0) ≠ none) → (tm_R (tm_sg n A Z) false (m (49 + 4 * (ng - 1))) (m 0) (m 0) 0).1 + (tm_R (tm_sg n A Z) false (m (49 + 4 * (ng - 1) + 1)) (m 0) (m 0) 0).1 ≠ 0 → (∀ v, 8 * sv ≤ v → v < 8 * sv + 8 → fr_p m (49 + 4 * (ng - 1)) v) → ∀ T' L' E' B' m', mm_M 49 86 T' L' m' → m' 0 = [] → (∀ s, 1 ≤ s → s < 81 → m' s = m s) → post (-4) (xn, xq, xa, nI ng, T', L', ay, gs, so, E', B', pv, vl, el))
    (hO : ∀ sv v, xa ≠ -1 → tm_ts (tm_sg n A Z) (m 0) = some sv → ¬ ((m 0).length = 1 ∧ tm_vn (tm_at (m 0) 0) ≠ none) → (tm_R (tm_sg n A Z) false (m (49 + 4 * (ng - 1))) (m 0) (m 0) 0).1 + (tm_R (tm_sg n A Z) false (m (49 + 4 * (ng - 1) + 1)) (m 0) (m 0) 0).1 ≠ 0 → fr_l (fr_p m (49 + 4 * (ng - 1))) (8 * sv) v → ∀ T' L' E' B' m', mm_M 49 86 T' L' m' → m' 0 = [] → m' (49 + 4 * (ng - 1)) = (tm_R (tm_sg n A Z) false (m (49 + 4 * (ng - 1))) (m 0) [tm_vc v] 0).2 → m' (49 + 4 * (ng - 1) + 1) = (tm_R (tm_sg n A Z) false (m (49 + 4 * (ng - 1) + 1)) (m 0) [tm_vc v] 0).2 → (∀ s, 1 ≤ s → s < 81 → s ≠ 49 + 4 * (ng - 1) → s ≠ 49 + 4 * (ng - 1) + 1 → m' s = m s) → post (nI ng) (xn, xq, xa, nI ng, T', L', ay, gs, so, E', B', pv, vl, el)) : wpX_generalize post (xn, xq, xa, nI ng, T, L, ay, gs, so, E, B, pv, vl, el) := by
  unfold wpX_generalize
  dsimp only
  obtain ⟨hS, hq8, hg8, h48, hWf, hWr, hWg⟩ := hW
  refine xp_copyText (s := 0) (t := 84) hM (by omega) (by omega) (by omega) (fun T1 L1 hM1 => ?_)
  have hM2 := mm_nil hM1 (s := 0) (by omega)
  have e84 : mm_set (mm_set m 84 (m 0)) 0 [] 84 = m 0 := by rw [mm_set_n (by omega), mm_set_s]
  have e0 : mm_set (mm_set m 84 (m 0)) 0 [] 0 = [] := mm_set_s
  have hfr : ∀ s, s ≠ 0 → s ≠ 84 → mm_set (mm_set m 84 (m 0)) 0 [] s = m s := fun s a b => by rw [mm_set_n a, mm_set_n b]
  refine nm_e ?_
  rcases hact with hx | ⟨k, hk, hx, hg0⟩
  · exact br_f (show ¬ (0 : Int32) ≤ xa by rw [hx]; decide) (hA hx T1 _ E B _ hM2 e0 (fun s a b => hfr s (by omega) (by omega)))
  · have hne : xa ≠ -1 := by rw [hx]; exact xi_neg (by omega)
    refine br_t (show (0 : Int32) ≤ xa by rw [hx]; exact nI_pos' (by omega)) ?_
    have hl84 := mm_len hM2 (s := 84) (by omega)
    rw [e84] at hl84
    show wpX_termSort _ _ 84 0 (upd L1 0 0 84)
    rw [hl84]
    have htt : ((mm_set (mm_set m 84 (m 0)) 0 [] 84).take (m 0).length).drop 0 = m 0 := by rw [e84, mm_tl (Nat.le_refl _), List.drop_zero]
    refine xp_sort (s := 84) (start := 0) hS hg hM2 (by omega) (by rw [e84]; exact Nat.le_refl _) h48 (by omega) ?_ ?_
    · rw [htt]
      intro sv hts
      have hsv : sv < 2 := by
        have p1 := tm_ts_P.mp hts
        obtain ⟨a, s, S', hga, hSS, _⟩ := (tm_P_suf p1 (i := 0) (tm_P_ne p1))
        rw [List.drop_zero] at hSS
        have := tm_P_uniq _ _ _ hSS p1
        obtain ⟨rfl, _⟩ := List.cons.inj this
        exact (tm_sg_b hS hga).2.2.1
      refine br_t (nI_pos' (by omega)) ?_
      refine xp_single (s := 84) hM2 (by omega) ?_ ?_
      · rw [e84]
        exact fun z1 z2 => br_f (by decide) (hF sv hne hts ⟨z1, z2⟩ T1 _ E B _ hM2 e0 (fun s a b => hfr s (by omega) (by omega)))
      · rw [e84]
        intro hns
        refine br_t rfl ?_
        obtain ⟨⟨s9, w1, w2, w3, w4, w5, w6⟩, _, _⟩ := hWg (ng - 1) (by omega)
        have g0 : mm_set (mm_set m 84 (m 0)) 0 [] (49 + 4 * (ng - 1)) = m (49 + 4 * (ng - 1)) := hfr _ (by omega) (by omega)
        have g1 : mm_set (mm_set m 84 (m 0)) 0 [] (49 + 4 * (ng - 1) + 1) = m (49 + 4 * (ng - 1) + 1) := hfr _ (by omega) (by omega)
        have g2 : mm_set (mm_set m 84 (m 0)) 0 [] (49 + 4 * (ng - 1) + 2) = m (49 + 4 * (ng - 1) + 2) := hfr _ (by omega) (by omega)
        have g3 : mm_set (mm_set m 84 (m 0)) 0 [] (49 + 4 * (ng - 1) + 3) = m (49 + 4 * (ng - 1) + 3) := hfr _ (by omega) (by omega)
        have hM3 := mm_nil hM2 (s := 85) (by omega)
        refine xp_fresh hM2 hg0 hg8 hsv ?_ ?_
        · rw [g0, g1, g2, g3]
          intro v hv
          have hv16 : v < 16 := by
            have := hv.2.1
            omega
          refine nm_e (br_f (nI_pos (by omega)) ?_)
          refine xp_letter hv16 ?_
          refine xp_append (s := 85) hM3 (by omega) (tm_vc_lt hv16) (fun T4 L4 hM4 => ?_)
          rw [mm_set_s, mm_set_set, List.nil_append, mm_tl (K := 49) (by rw [List.length_singleton]; omega)] at hM4
          have k84 : mm_set (mm_set (mm_set m 84 (m 0)) 0 []) 85 [tm_vc v] 84 = m 0 := by rw [mm_set_n (by omega), e84]
          have k85 : mm_set (mm_set (mm_set m 84 (m 0)) 0 []) 85 [tm_vc v] 85 = [tm_vc v] := mm_set_s
          have kf : ∀ s, s ≠ 0 → s < 81 → mm_set (mm_set (mm_set m 84 (m 0)) 0 []) 85 [tm_vc v] s = m s := fun s a b => by rw [mm_set_n (by omega), hfr s a (by omega)]
          have k0 : mm_set (mm_set (mm_set m 84 (m 0)) 0 []) 85 [tm_vc v] 0 = [] := by rw [mm_set_n (by omega), e0]
          refine xp_gen87 (t := m 0) hS hg hM4 hg0 hg8 k84 (by rw [kf _ (by omega) (by omega)]; exact w5) (by rw [kf _ (by omega) (by omega)]; exact w6) (Or.inr (by rw [k85]; rfl)) ?_ ?_ ?_
          · rw [kf (49 + 4 * (ng - 1)) (by omega) (by omega), kf (49 + 4 * (ng - 1) + 1) (by omega) (by omega)]
            intro z T5 L5 E5 B5 m5 hM5 f5
            exact hN sv hne hts hns z T5 L5 E5 B5 m5 hM5 (by rw [f5 0 (by omega), k0]) (fun s a b => by rw [f5 s b, kf s (by omega) b])
          · intro _ z
            exact absurd z (nI_pos (by omega))
          · rw [kf (49 + 4 * (ng - 1)) (by omega) (by omega), kf (49 + 4 * (ng - 1) + 1) (by omega) (by omega), k85]
            intro z _ T5 L5 E5 B5 m5 hM5 q1 q2 f5
            exact hO sv v hne hts hns z hv T5 L5 E5 B5 m5 hM5 (by rw [f5 0 (by omega) (by omega) (by omega), k0]) q1 q2 (fun s a b c d => by rw [f5 s b c d, kf s (by omega) b])
        · rw [g0, g1, g2, g3]
          intro hv
          refine nm_e (br_t (by decide) ?_)
          have k84 : mm_set (mm_set (mm_set m 84 (m 0)) 0 []) 85 [] 84 = m 0 := by rw [mm_set_n (by omega), e84]
          have kf : ∀ s, s ≠ 0 → s < 81 → mm_set (mm_set (mm_set m 84 (m 0)) 0 []) 85 [] s = m s := fun s a b => by rw [mm_set_n (by omega), hfr s a (by omega)]
          have k0 : mm_set (mm_set (mm_set m 84 (m 0)) 0 []) 85 [] 0 = [] := by rw [mm_set_n (by omega), e0]
          refine xp_gen87 (t := m 0) hS hg hM3 hg0 hg8 k84 (by rw [kf _ (by omega) (by omega)]; exact w5) (by rw [kf _ (by omega) (by omega)]; exact w6) (Or.inl (by decide)) ?_ ?_ ?_
          · rw [kf (49 + 4 * (ng - 1)) (by omega) (by omega), kf (49 + 4 * (ng - 1) + 1) (by omega) (by omega)]
            intro z T5 L5 E5 B5 m5 hM5 f5
            exact hN sv hne hts hns z T5 L5 E5 B5 m5 hM5 (by rw [f5 0 (by omega), k0]) (fun s a b => by rw [f5 s b, kf s (by omega) b])
          · rw [kf (49 + 4 * (ng - 1)) (by omega) (by omega), kf (49 + 4 * (ng - 1) + 1) (by omega) (by omega)]
            intro z _ T5 L5 E5 B5 m5 hM5 f5
            exact hU sv hne hts hns z hv T5 L5 E5 B5 m5 hM5 (by rw [f5 0 (by omega), k0]) (fun s a b => by rw [f5 s b, kf s (by omega) b])
          · intro _ z
            exact absurd (show (-1 : Int32) < 0 by decide) z
    · rw [htt]
      intro hts
      exact br_f (by decide) (hSy hne hts T1 _ E B _ hM2 e0 (fun s a b => hfr s (by omega) (by omega)))
end XH
end
section
/-! 18: the class: induct, evaluate -/
section XI
variable {xn xq xa xg : Int32} {T L ay gs so E B pv vl el : Nat → Int32} {m : Nat → List Nat} {n q ng : Nat} {A : Nat → List Nat} {Z : Nat → Nat} {hy : Nat → Bool}
theorem xp_step {post : St1 → Prop} (hM : mm_M 49 86 T L m) {v : Nat} {hx : Int32} {hh : Nat} (hv : v < 16) (hhx : 8 ≤ v → hx = nI hh ∧ hh < 16) (h : ∀ T' L', mm_M 49 86 T' L' (mm_set (mm_set m 84 [tm_vc v]) 85 (tm_to v hh)) → post (xn, xq, xa, xg, T', L', ay, gs, so, E, B, pv, vl, el)) : wpX_writeStepTerm post (xn, xq, xa, xg, T, L, ay, gs, so, E, B, pv, vl, el) (nI v) hx := by
  unfold wpX_writeStepTerm wX_writeStepTerm_67
  dsimp only
  have hc := tm_vc_lt hv
  refine xp_letter hv (nm_e ?_)
  refine xp_append (s := 84) (mm_nil hM (s := 84) (by omega)) (by omega) hc (fun T1 L1 hM1 => ?_)
  rw [mm_set_s, mm_set_set, List.nil_append, mm_tl (K := 49) (by rw [List.length_singleton]; omega)] at hM1
  have hM2 := mm_nil hM1 (s := 85) (by omega)
  refine nm_e (pk_le 8 v (fun h8 => ?_) (fun h8 => ?_))
  · obtain ⟨rfl, hh16⟩ := hhx h8
    refine xp_letter hh16 ?_
    refine xp_append (s := 85) (c := 67) hM2 (by omega) (by omega) (fun T3 L3 hM3 => ?_)
    rw [mm_set_s, mm_set_set] at hM3
    refine xp_append (s := 85) hM3 (by omega) (tm_vc_lt hh16) (fun T4 L4 hM4 => ?_)
    rw [mm_set_s, mm_set_set, mm_tt] at hM4
    refine xp_append (s := 85) hM4 (by omega) hc (fun T5 L5 hM5 => ?_)
    rw [mm_set_s, mm_set_set, mm_tt] at hM5
    apply h
    unfold tm_to
    rw [if_neg (by omega)]
    exact hM5
  · refine xp_append (s := 85) (c := 83) hM2 (by omega) (by omega) (fun T3 L3 hM3 => ?_)
    rw [mm_set_s, mm_set_set] at hM3
    refine xp_append (s := 85) hM3 (by omega) hc (fun T5 L5 hM5 => ?_)
    rw [mm_set_s, mm_set_set, mm_tt] at hM5
    apply h
    unfold tm_to
    rw [if_pos h8]
    exact hM5
theorem xp_push33 {post : St1 → Prop} {c s0 : Nat} (hS : tm_SG n A Z) (hg : sg_X (tm_sg n A Z) ay gs so) (hM : mm_M 49 86 T L m) (hg0 : 1 ≤ ng) (hg8 : ng < 8) (hs0 : s0 = 49 + 4 * (ng - 1)) (hc : c < 256) (h85 : m 85 = []) (hl : (m s0).length ≤ 48) (hr : (m (s0 + 1)).length ≤ 48) (h81 : (m 81).length ≤ 48) (h82 : (m 82).length ≤ 48)
    (h : ∀ T' L' E' B' m', mm_M 49 86 T' L' m' → m' s0 = m 81 → m' (s0 + 1) = m 82 → m' (s0 + 2) = m s0 → m' (s0 + 3) = m (s0 + 1) → m' (s0 + 4) = (tm_R (tm_sg n A Z) false (m s0) (m 84) [c] 0).2 → m' (s0 + 5) = (tm_R (tm_sg n A Z) false (m (s0 + 1)) (m 84) [c] 0).2 → m' (s0 + 6) = [] → m' (s0 + 7) = [] → (∀ s, s < 81 → s < s0 ∨ s0 + 7 < s → m' s = m s) → post (xn, xq, xa, nI (ng + 1), T', L', ay, gs, so, E', B', pv, vl, el)) : wX_pushStepAndBase_33 post (nI s0) (nI (s0 + 4)) (nI c) (nI 85) xn xq xa (nI ng) T L ay gs so E B pv vl el := by
  unfold wX_pushStepAndBase_33
  have hb : s0 + 7 < 81 := by omega
  have hb0 : 49 ≤ s0 := by omega
  clear hs0
  refine xp_append (s := 85) hM (by omega) hc (fun T1 L1 hM1 => ?_)
  rw [h85, List.nil_append, mm_tl (K := 49) (by rw [List.length_singleton]; omega)] at hM1
  have j84 : mm_set m 85 [c] 84 = m 84 := mm_set_n (by omega)
  have j85 : mm_set m 85 [c] 85 = [c] := mm_set_s
  have jf : ∀ s, s ≠ 85 → mm_set m 85 [c] s = m s := fun s a => mm_set_n a
  have l1 := tm_R_len1 (g := tm_sg n A Z) (w := m s0) (fr := m 84) (to := [c]) rfl _ 0 (Nat.le_refl _)
  have l2 := tm_R_len1 (g := tm_sg n A Z) (w := m (s0 + 1)) (fr := m 84) (to := [c]) rfl _ 0 (Nat.le_refl _)
  refine xp_repl (t := s0 + 4) (f := 84) (p := 85) (pat := false) hg (tm_ar_lt hS) hM1 (by omega) (by omega) (by omega) (by omega) (by omega) (by omega) (by omega) (Or.inr ⟨rfl, rfl⟩) (fun T2 L2 E2 B2 hM2 => ?_)
  rw [j84, j85, jf s0 (by omega), mm_tl (by omega)] at hM2
  rw [nI_1 s0, nI_1 (s0 + 4)]
  refine xp_repl (t := s0 + 4 + 1) (f := 84) (p := 85) (pat := false) hg (tm_ar_lt hS) hM2 (by omega) (by omega) (by omega) (by omega) (by omega) (by omega) (by omega) (Or.inr ⟨rfl, rfl⟩) (fun T3 L3 E3 B3 hM3 => ?_)
  rw [mm_set_n (s := s0 + 4) (j := 84) (by omega), mm_set_n (s := s0 + 4) (j := 85) (by omega), mm_set_n (s := s0 + 4) (j := s0 + 1) (by omega), j84, j85, jf (s0 + 1) (by omega), mm_tl (by omega)] at hM3
  have hM4 := mm_nil (mm_nil hM3 (s := s0 + 4 + 2) (by omega)) (s := s0 + 4 + 3) (by omega)
  dsimp only
  rw [show nI (s0 + 4) + 2 = nI (s0 + 4 + 2) from nI_add _ 2, show nI (s0 + 4) + 3 = nI (s0 + 4 + 3) from nI_add _ 3, nI_clamp (n := s0 + 4 + 2) (by omega), nI_clamp (n := s0 + 4 + 3) (by omega), show nI s0 + 2 = nI (s0 + 2) from nI_add _ 2, show nI s0 + 3 = nI (s0 + 3) from nI_add _ 3]
  refine ⟨vp_in_nI (by omega) (by omega), nm_e ⟨vp_in_nI (by omega) (by omega), nm_e ?_⟩⟩
  refine xp_copyText (s := s0) (t := s0 + 2) hM4 (by omega) (by omega) (by omega) (fun T5 L5 hM5 => ?_)
  refine xp_copyText (s := s0 + 1) (t := s0 + 3) hM5 (by omega) (by omega) (by omega) (fun T6 L6 hM6 => ?_)
  refine xp_copyText (s := 81) (t := s0) hM6 (by omega) (by omega) (by omega) (fun T7 L7 hM7 => ?_)
  refine xp_copyText (s := 82) (t := s0 + 1) hM7 (by omega) (by omega) (by omega) (fun T8 L8 hM8 => ?_)
  refine nm_r (nI_1 ng) (h T8 L8 E3 B3 _ hM8 ?_ ?_ ?_ ?_ ?_ ?_ ?_ ?_ ?_)
  · simp (disch := omega) only [mm_set_s, mm_set_n]
  · simp (disch := omega) only [mm_set_s, mm_set_n]
  · simp (disch := omega) only [mm_set_s, mm_set_n]
  · simp (disch := omega) only [mm_set_s, mm_set_n]
  · simp (disch := omega) only [mm_set_s, mm_set_n]
  · show mm_set _ _ _ (s0 + 4 + 1) = _
    simp (disch := omega) only [mm_set_s, mm_set_n]
  · show mm_set _ _ _ (s0 + 4 + 2) = _
    simp (disch := omega) only [mm_set_s, mm_set_n]
  · show mm_set _ _ _ (s0 + 4 + 3) = _
    simp (disch := omega) only [mm_set_s, mm_set_n]
  · intro s h1 h2
    simp (disch := omega) only [mm_set_s, mm_set_n]
theorem xp_ind89 {post : Int32 → St1 → Prop} {v hh : Nat} {hx : Int32} (hv : v < 16) (hhx : 8 ≤ v → hx = nI hh ∧ hh < 16) (hS : tm_SG n A Z) (hg : sg_X (tm_sg n A Z) ay gs so) (hM : mm_M 49 86 T L m) (hg0 : 1 ≤ ng) (hg8 : ng < 8) (hl : (m (49 + 4 * (ng - 1))).length ≤ 48) (hr : (m (49 + 4 * (ng - 1) + 1)).length ≤ 48)
    (hL : 48 < (tm_R (tm_sg n A Z) false (m (49 + 4 * (ng - 1))) [tm_vc v] (tm_to v hh) 0).2.length ∨ 48 < (tm_R (tm_sg n A Z) false (m (49 + 4 * (ng - 1) + 1)) [tm_vc v] (tm_to v hh) 0).2.length → ∀ T' L' E' B' m', mm_M 49 86 T' L' m' → (∀ s, s < 81 → m' s = m s) → post (-7) (xn, xq, xa, nI ng, T', L', ay, gs, so, E', B', pv, vl, el))
    (hO : (tm_R (tm_sg n A Z) false (m (49 + 4 * (ng - 1))) [tm_vc v] (tm_to v hh) 0).2.length ≤ 48 → (tm_R (tm_sg n A Z) false (m (49 + 4 * (ng - 1) + 1)) [tm_vc v] (tm_to v hh) 0).2.length ≤ 48 → ∀ T' L' E' B' m', mm_M 49 86 T' L' m' → m' (49 + 4 * (ng - 1)) = (tm_R (tm_sg n A Z) false (m (49 + 4 * (ng - 1))) [tm_vc v] (tm_to v hh) 0).2 → m' (49 + 4 * (ng - 1) + 1) = (tm_R (tm_sg n A Z) false (m (49 + 4 * (ng - 1) + 1)) [tm_vc v] (tm_to v hh) 0).2 →
      m' (49 + 4 * (ng - 1) + 2) = m (49 + 4 * (ng - 1)) → m' (49 + 4 * (ng - 1) + 3) = m (49 + 4 * (ng - 1) + 1) → m' (49 + 4 * (ng - 1) + 4) = (tm_R (tm_sg n A Z) false (m (49 + 4 * (ng - 1))) [tm_vc v] (tm_ba v) 0).2 → m' (49 + 4 * (ng - 1) + 5) = (tm_R (tm_sg n A Z) false (m (49 + 4 * (ng - 1) + 1)) [tm_vc v] (tm_ba v) 0).2 → m' (49 + 4 * (ng - 1) + 6) = [] → m' (49 + 4 * (ng - 1) + 7) = [] →
      (∀ s, s < 81 → s < 49 + 4 * (ng - 1) ∨ 49 + 4 * (ng - 1) + 7 < s → m' s = m s) → post (nI (ng + 1)) (xn, xq, xa, nI (ng + 1), T', L', ay, gs, so, E', B', pv, vl, el)) : wX_induct_89 post (nI v) hx xn xq xa (nI ng) T L ay gs so E B pv vl el := by
  unfold wX_induct_89
  refine xp_step hM hv hhx (fun T1 L1 hM1 => ?_)
  have j84 : mm_set (mm_set m 84 [tm_vc v]) 85 (tm_to v hh) 84 = [tm_vc v] := by rw [mm_set_n (by omega), mm_set_s]
  have j85 : mm_set (mm_set m 84 [tm_vc v]) 85 (tm_to v hh) 85 = tm_to v hh := mm_set_s
  have jf : ∀ s, s < 84 → mm_set (mm_set m 84 [tm_vc v]) 85 (tm_to v hh) s = m s := fun s a => by rw [mm_set_n (by omega), mm_set_n (by omega)]
  refine xp_replS (f := 84) (p := 85) (pat := false) hS hg hM1 hg0 (by omega) (by omega) (by omega) (by omega) (by omega) (by omega) (by omega) (Or.inr ⟨rfl, rfl⟩) (fun T2 L2 E2 B2 m2 hM2 a1 a2 a3 => ?_)
  rw [j84, j85, jf (49 + 4 * (ng - 1)) (by omega)] at a1
  rw [j84, j85, jf (49 + 4 * (ng - 1) + 1) (by omega)] at a2
  have l81 := mm_len hM2 (s := 81) (by omega)
  have l82 := mm_len hM2 (s := 82) (by omega)
  have b81 := mm_le hM2 (s := 81) (by omega)
  have b82 := mm_le hM2 (s := 82) (by omega)
  have t81 := congrArg List.length a1
  have t82 := congrArg List.length a2
  rw [List.length_take] at t81 t82
  have hfr : ∀ s, s < 81 → m2 s = m s := fun s hs => by rw [a3 s (by omega) (by omega), jf s (by omega)]
  dsimp only
  rw [l81, l82]
  refine pk_lt 48 (m2 81).length (fun z => hL (Or.inl (by omega)) T2 L2 E2 B2 m2 hM2 hfr) (fun z => pk_le (m2 82).length 48 (fun z2 => ?_) (fun z2 => hL (Or.inr (by omega)) T2 L2 E2 B2 m2 hM2 hfr))
  rw [mm_tl (by omega)] at a1 a2
  unfold wpX_pushStepAndBase
  dsimp only
  refine xp_top hg0 (by omega) ?_
  rw [show nI (49 + 4 * (ng - 1)) + 4 = nI (49 + 4 * (ng - 1) + 4) from nI_add _ 4]
  refine nm_e (nm_e ?_)
  have hM3 := mm_nil hM2 (s := 85) (by omega)
  have kf : ∀ s, s ≠ 85 → mm_set m2 85 [] s = m2 s := fun s a => mm_set_n a
  have k84 : mm_set m2 85 [] 84 = [tm_vc v] := by rw [kf 84 (by omega), a3 84 (by omega) (by omega), j84]
  have hfin : ∀ c, c < 256 → tm_ba v = [c] → wX_pushStepAndBase_33 (fun u => post u.2.2.2.1 u) (nI (49 + 4 * (ng - 1))) (nI (49 + 4 * (ng - 1) + 4)) (nI c) (nI 85) xn xq xa (nI ng) T2 (upd L2 85 0) ay gs so E2 B2 pv vl el := by
    intro c hc hb
    refine xp_push33 hS hg hM3 hg0 hg8 rfl hc mm_set_s (by rw [kf _ (by omega), hfr _ (by omega)]; exact hl) (by rw [kf _ (by omega), hfr _ (by omega)]; exact hr) (by rw [kf 81 (by omega)]; omega) (by rw [kf 82 (by omega)]; omega) ?_
    rw [kf 81 (by omega), kf 82 (by omega), k84, kf (49 + 4 * (ng - 1)) (by omega), kf (49 + 4 * (ng - 1) + 1) (by omega), hfr (49 + 4 * (ng - 1)) (by omega), hfr (49 + 4 * (ng - 1) + 1) (by omega), a1, a2, ← hb]
    intro T' L' E' B' m' hM' q1 q2 q3 q4 q5 q6 q7 q8 q9
    exact hO (by omega) (by omega) T' L' E' B' m' hM' q1 q2 q3 q4 q5 q6 q7 q8 (fun s h1 h2 => by rw [q9 s h1 h2, kf s (by omega), hfr s h1])
  refine pk_le 8 v (fun h8 => hfin 78 (by omega) (by unfold tm_ba; rw [if_neg (by omega)])) (fun h8 => hfin 90 (by omega) (by unfold tm_ba; rw [if_pos h8]))
theorem xp_induct {post : Int32 → St1 → Prop} {k v : Nat} (hk : k < 8) (hv : v < 16) (hW : iv_W n A Z q ng hy m) (hg : sg_X (tm_sg n A Z) ay gs so) (hM : mm_M 49 86 T L m) (hg0 : 1 ≤ ng)
    (hA : ¬ (tm_vc v ∈ m (49 + 4 * (ng - 1)) ∨ tm_vc v ∈ m (49 + 4 * (ng - 1) + 1)) → post (-6) (xn, xq, nI k, nI ng, T, L, ay, gs, so, E, B, pv, vl, el))
    (hU : tm_vc v ∈ m (49 + 4 * (ng - 1)) ∨ tm_vc v ∈ m (49 + 4 * (ng - 1) + 1) → ng = 8 ∨ (8 ≤ v ∧ ∀ u, 8 * 0 ≤ u → u < 8 * 0 + 8 → fr_p m (49 + 4 * (ng - 1)) u) → post (-4) (xn, xq, nI k, nI ng, T, L, ay, gs, so, E, B, pv, vl, el))
    (hL : ∀ hh, tm_vc v ∈ m (49 + 4 * (ng - 1)) ∨ tm_vc v ∈ m (49 + 4 * (ng - 1) + 1) → ng < 8 → (8 ≤ v → fr_l (fr_p m (49 + 4 * (ng - 1))) (8 * 0) hh) → 48 < (tm_R (tm_sg n A Z) false (m (49 + 4 * (ng - 1))) [tm_vc v] (tm_to v hh) 0).2.length ∨ 48 < (tm_R (tm_sg n A Z) false (m (49 + 4 * (ng - 1) + 1)) [tm_vc v] (tm_to v hh) 0).2.length → ∀ T' L' E' B' m', mm_M 49 86 T' L' m' → (∀ s, s < 81 → m' s = m s) → post (-7) (xn, xq, nI k, nI ng, T', L', ay, gs, so, E', B', pv, vl, el))
    (hO : ∀ hh, tm_vc v ∈ m (49 + 4 * (ng - 1)) ∨ tm_vc v ∈ m (49 + 4 * (ng - 1) + 1) → ng < 8 → (8 ≤ v → fr_l (fr_p m (49 + 4 * (ng - 1))) (8 * 0) hh) → (tm_R (tm_sg n A Z) false (m (49 + 4 * (ng - 1))) [tm_vc v] (tm_to v hh) 0).2.length ≤ 48 → (tm_R (tm_sg n A Z) false (m (49 + 4 * (ng - 1) + 1)) [tm_vc v] (tm_to v hh) 0).2.length ≤ 48 → ∀ T' L' E' B' m', mm_M 49 86 T' L' m' → m' (49 + 4 * (ng - 1)) = (tm_R (tm_sg n A Z) false (m (49 + 4 * (ng - 1))) [tm_vc v] (tm_to v hh) 0).2 → m' (49 + 4 * (ng - 1) + 1) = (tm_R (tm_sg n A Z) false (m (49 + 4 * (ng - 1) + 1)) [tm_vc v] (tm_to v hh) 0).2 →
      m' (49 + 4 * (ng - 1) + 2) = m (49 + 4 * (ng - 1)) → m' (49 + 4 * (ng - 1) + 3) = m (49 + 4 * (ng - 1) + 1) → m' (49 + 4 * (ng - 1) + 4) = (tm_R (tm_sg n A Z) false (m (49 + 4 * (ng - 1))) [tm_vc v] (tm_ba v) 0).2 → m' (49 + 4 * (ng - 1) + 5) = (tm_R (tm_sg n A Z) false (m (49 + 4 * (ng - 1) + 1)) [tm_vc v] (tm_ba v) 0).2 → m' (49 + 4 * (ng - 1) + 6) = [] → m' (49 + 4 * (ng - 1) + 7) = [] →
      (∀ s, s < 81 → s < 49 + 4 * (ng - 1) ∨ 49 + 4 * (ng - 1) + 7 < s → m' s = m s) → post (nI (ng + 1)) (xn, xq, nI k, nI (ng + 1), T', L', ay, gs, so, E', B', pv, vl, el)) : wpX_induct post (xn, xq, nI k, nI ng, T, L, ay, gs, so, E, B, pv, vl, el) (nI v) := by
  unfold wpX_induct
  dsimp only
  obtain ⟨hS, hq8, hg8, h48, hWf, hWr, hWg⟩ := hW
  obtain ⟨⟨s9, w1, w2, w3, w4, w5, w6⟩, _, _⟩ := hWg (ng - 1) (by omega)
  refine br_t (nI_pos' (by omega)) (br_f (nI_pos (by omega)) (br_t (nI_lt (b := 16) hv (by decide)) ?_))
  refine xp_top hg0 hg8 ?_
  refine xp_varsOf hM (by omega) (fun k1 s1 => ?_)
  rw [nI_1]
  refine xp_varsOf hM (by omega) (fun k2 s2 => ?_)
  refine nm_r (vz_or k1 k2) ?_
  obtain ⟨b0, b1⟩ := vz_S_bit (vz_S_or s1 s2) hv
  by_cases hin : tm_vc v ∈ m (49 + 4 * (ng - 1)) ∨ tm_vc v ∈ m (49 + 4 * (ng - 1) + 1)
  · refine br_f (fun z => b0.mp z hin) (pk_lt ng 8 (fun h8 => ?_) (fun h8 => hU hin (Or.inl (by omega))))
    refine pk_lt v 8 (fun v8 => ?_) (fun v8 => ?_)
    · exact xp_ind89 (hh := 0) hv (fun z => by omega) hS hg hM hg0 h8 w5 w6 (hL 0 hin h8 (fun z => by omega)) (hO 0 hin h8 (fun z => by omega))
    · refine xp_fresh (sv := 0) hM hg0 hg8 (by omega) (fun hh hfr => ?_) (fun hno => br_f (by decide) (hU hin (Or.inr ⟨v8, hno⟩)))
      have hh16 : hh < 16 := by
        have := hfr.2.1
        omega
      exact br_t (nI_pos' (by omega)) (xp_ind89 (hh := hh) hv (fun _ => ⟨rfl, hh16⟩) hS hg hM hg0 h8 w5 w6 (hL hh hin h8 (fun _ => hfr)) (hO hh hin h8 (fun _ => hfr)))
  · exact br_t (b0.mpr hin) (hA hin)
end XI
end
section
/-! 19: the class: evaluate -/
section XJ
variable {xn xq xa xg : Int32} {T L ay gs so E B pv vl el : Nat → Int32} {m : Nat → List Nat} {n q ng : Nat} {A : Nat → List Nat} {Z : Nat → Nat} {hy : Nat → Bool} {val : Nat → Nat} {e2 : Nat → Nat → Nat}
theorem xl_num {post : St1 → Prop} {t k : Nat} (ht : t < 86) (hk : k < 100) (h : ∀ T' L', mm_M 49 86 T' L' (mm_set m t ((m t ++ tm_nu k).take 49)) → post (xn, xq, xa, xg, T', L', ay, gs, so, E, B, pv, vl, el)) :
    ∀ f i T L, k < f + i → i ≤ k → mm_M 49 86 T L (mm_set m t ((m t ++ List.replicate i 83).take 49)) → wX_appendNumber_2 post (nI t) (nI k) f (nI i) xn xq xa xg T L ay gs so E B pv vl el := by
  intro f
  induction f with
  | zero => intro i T L a b; omega
  | succ f ih =>
    intro i T L a b hM
    rw [wX_appendNumber_2]
    dsimp only
    refine pk_le k i (fun hge => ?_) (fun hlt => ?_)
    · have e : i = k := by omega
      subst e
      refine xp_append (c := 90) hM ht (by omega) (fun T1 L1 hM1 => ?_)
      rw [mm_set_s, mm_set_set, mm_tt, List.append_assoc] at hM1
      exact h T1 L1 hM1
    · refine xp_append (c := 83) hM ht (by omega) (fun T1 L1 hM1 => ?_)
      rw [mm_set_s, mm_set_set, mm_tt, List.append_assoc, ← List.replicate_succ'] at hM1
      exact nm_r (nI_1 i) (ih (i + 1) T1 L1 (by omega) (by omega) hM1)
theorem xp_num {post : St1 → Prop} (hM : mm_M 49 86 T L m) {t k : Nat} (ht : t < 86) (hk : k < 100) (h : ∀ T' L', mm_M 49 86 T' L' (mm_set m t ((m t ++ tm_nu k).take 49)) → post (xn, xq, xa, xg, T', L', ay, gs, so, E, B, pv, vl, el)) : wpX_appendNumber post (xn, xq, xa, xg, T, L, ay, gs, so, E, B, pv, vl, el) (nI t) (nI k) := by
  unfold wpX_appendNumber
  dsimp only
  refine ⟨k + 1, xl_num ht hk h (k + 1) 0 T L (by omega) (Nat.zero_le _) ?_⟩
  rw [List.replicate_zero, List.append_nil, mm_tl (mm_le hM ht), mm_set_self]
  exact hM
theorem xl_lst {post : St1 → Prop} {t v : Nat} (hev : ev_X val e2 vl el) (ht : t < 86) (hv : v < 16) (hv8 : 8 ≤ v) (h : ∀ T' L', mm_M 49 86 T' L' (mm_set m t ((m t ++ tm_vl val e2 v).take 49)) → post (xn, xq, xa, xg, T', L', ay, gs, so, E, B, pv, vl, el)) :
    ∀ f i T L, val v < f + i → i ≤ val v → mm_M 49 86 T L (mm_set m t ((m t ++ tm_el (e2 v) i).take 49)) → wX_appendList_2 post (nI t) (nI v) f (nI i) xn xq xa xg T L ay gs so E B pv vl el := by
  obtain ⟨hvl, h7, h8⟩ := hev v hv
  obtain ⟨h4, he⟩ := h8 hv8
  intro f
  induction f with
  | zero => intro i T L a b; omega
  | succ f ih =>
    intro i T L a b hM
    rw [wX_appendList_2]
    dsimp only
    rw [nI_clamp (n := v) (by omega), hvl]
    refine ⟨vp_in_nI hv (by omega), pk_le (val v) i (fun hge => ?_) (fun hlt => ?_)⟩
    · have e : i = val v := by omega
      subst e
      refine xp_append (c := 78) hM ht (by omega) (fun T1 L1 hM1 => ?_)
      rw [mm_set_s, mm_set_set, mm_tt, List.append_assoc] at hM1
      apply h
      unfold tm_vl
      rw [if_neg (by omega)]
      exact hM1
    · refine xp_append (c := 67) hM ht (by omega) (fun T1 L1 hM1 => ?_)
      rw [mm_set_s, mm_set_set, mm_tt] at hM1
      refine ⟨vp_in_nI hv (by omega), ?_⟩
      dsimp only
      obtain ⟨e3, e4⟩ := he i hlt
      rw [show (4 : Int32) * nI i = nI (4 * i) from pk_mul 4 i, e4]
      refine xp_num hM1 ht (by omega) (fun T2 L2 hM2 => ?_)
      rw [mm_set_s, mm_set_set, mm_tt, List.append_assoc, List.append_assoc] at hM2
      exact nm_r (nI_1 i) (ih (i + 1) T2 L2 (by omega) (by omega) hM2)
theorem xp_lst {post : St1 → Prop} (hM : mm_M 49 86 T L m) {t v : Nat} (hev : ev_X val e2 vl el) (ht : t < 86) (hv : v < 16) (hv8 : 8 ≤ v) (h : ∀ T' L', mm_M 49 86 T' L' (mm_set m t ((m t ++ tm_vl val e2 v).take 49)) → post (xn, xq, xa, xg, T', L', ay, gs, so, E, B, pv, vl, el)) : wpX_appendList post (xn, xq, xa, xg, T, L, ay, gs, so, E, B, pv, vl, el) (nI t) (nI v) := by
  unfold wpX_appendList
  dsimp only
  refine ⟨val v + 1, xl_lst hev ht hv hv8 h _ 0 T L (by omega) (Nat.zero_le _) ?_⟩
  show mm_M 49 86 T L (mm_set m t ((m t ++ []).take 49))
  rw [List.append_nil, mm_tl (mm_le hM ht), mm_set_self]
  exact hM
theorem xl_gr {post : St1 → Prop} {s t : Nat} (hev : ev_X val e2 vl el) (hs : s < 86) (ht : t < 86) (hst : s ≠ t) (hl49 : (m s).length ≤ 49) (h : ∀ T' L', mm_M 49 86 T' L' (mm_set m t ((tm_gk val e2 16 (m s)).take 49)) → post (xn, xq, xa, xg, T', L', ay, gs, so, E, B, pv, vl, el)) :
    ∀ f i T L, (m s).length < f + i → i ≤ (m s).length → mm_M 49 86 T L (mm_set m t ((tm_gk val e2 16 ((m s).take i)).take 49)) → wX_writeGround_9 post (nI s) (nI t) f (nI i) xn xq xa xg T L ay gs so E B pv vl el := by
  intro f
  induction f with
  | zero => intro i T L a b; omega
  | succ f ih =>
    intro i T L a b hM
    have es : mm_set m t ((tm_gk val e2 16 ((m s).take i)).take 49) s = m s := mm_set_n hst
    rw [wX_writeGround_9]
    dsimp only
    rw [nI_clamp (n := s) (by omega), mm_len hM hs, es]
    refine ⟨vp_in_nI hs (by omega), pk_le (m s).length i (fun hge => ?_) (fun hlt => ?_)⟩
    · rw [mm_tl hge] at hM
      exact h T L hM
    · have hb := mm_b hM hs i
      rw [es] at hb
      have hstep : ∀ u T' L', tm_g1 val e2 16 (tm_at (m s) i) = u → mm_M 49 86 T' L' (mm_set m t ((tm_gk val e2 16 ((m s).take i) ++ u).take 49)) → wX_writeGround_9 post (nI s) (nI t) f (nI i + 1) xn xq xa xg T' L' ay gs so E B pv vl el := by
        intro u T' L' hu hM'
        rw [nI_1]
        refine ih (i + 1) T' L' (by omega) (by omega) ?_
        have e : tm_gk val e2 16 ((m s).take (i + 1)) = tm_gk val e2 16 ((m s).take i) ++ u := by
          rw [← mm_snoc hlt, ← hu]
          unfold tm_gk
          rw [List.flatMap_append, List.flatMap_singleton]
        rw [e]
        exact hM'
      refine xp_sym hM hs (by omega) ?_
      rw [es]
      refine xp_vnum (by omega) (fun v hv hv16 => ?_) (fun hv => ?_)
      · obtain ⟨hvl, h7, _⟩ := hev v hv16
        refine br_t (nI_pos' (by omega)) (pk_le 8 v (fun h8 => ?_) (fun h8 => ?_))
        · refine xp_lst hM hev ht hv16 h8 (fun T1 L1 hM1 => nm_e (hstep _ T1 L1 (tm_g1_v hv hv16) ?_))
          rw [mm_set_s, mm_set_set, mm_tt] at hM1
          exact hM1
        · rw [nI_clamp (n := v) (by omega), hvl]
          refine ⟨vp_in_nI hv16 (by omega), ?_⟩
          refine xp_num hM ht (by omega) (fun T1 L1 hM1 => nm_e (hstep _ T1 L1 (tm_g1_v hv hv16) ?_))
          rw [mm_set_s, mm_set_set, mm_tt] at hM1
          unfold tm_vl
          rw [if_pos h8]
          exact hM1
      · refine br_f (by decide) ?_
        refine xp_append hM ht hb (fun T1 L1 hM1 => nm_e (hstep _ T1 L1 (tm_g1_n hv) ?_))
        rw [mm_set_s, mm_set_set, mm_tt] at hM1
        exact hM1
theorem xp_gr {post : St1 → Prop} (hM : mm_M 49 86 T L m) {s t : Nat} (hev : ev_X val e2 vl el) (hs : s < 86) (ht : t < 86) (hst : s ≠ t) (h : ∀ T' L', mm_M 49 86 T' L' (mm_set m t ((tm_gk val e2 16 (m s)).take 49)) → post (xn, xq, xa, xg, T', L', ay, gs, so, E, B, pv, vl, el)) : wpX_writeGround post (xn, xq, xa, xg, T, L, ay, gs, so, E, B, pv, vl, el) (nI s) (nI t) := by
  unfold wpX_writeGround
  dsimp only
  rw [nI_clamp (n := t) (by omega)]
  exact ⟨vp_in_nI ht (by omega), nm_e ⟨(m s).length + 1, xl_gr hev hs ht hst (mm_le hM hs) h _ 0 T _ (by omega) (Nat.zero_le _) (mm_nil hM ht)⟩⟩
theorem xp_eval {post : Int32 → St1 → Prop} {k : Nat} (hev : ev_X val e2 vl el) (hW : iv_W n A Z q ng hy m) (hg : sg_X (tm_sg n A Z) ay gs so) (hM : mm_M 49 86 T L m) (hk : k < q)
    (hU : tm_N (tm_sg n A Z) (iv_R m) (tm_gk val e2 16 (m (1 + 2 * k))) = none ∨ tm_N (tm_sg n A Z) (iv_R m) (tm_gk val e2 16 (m (1 + 2 * k + 1))) = none → ∀ T' L' E' B' m', mm_M 49 86 T' L' m' → (∀ s, s < 81 → m' s = m s) → post 3 (xn, nI q, xa, xg, T', L', ay, gs, so, E', B', pv, vl, el))
    (hO : ∀ u v, tm_N (tm_sg n A Z) (iv_R m) (tm_gk val e2 16 (m (1 + 2 * k))) = some u → tm_N (tm_sg n A Z) (iv_R m) (tm_gk val e2 16 (m (1 + 2 * k + 1))) = some v → ∀ T' L' E' B' m', mm_M 49 86 T' L' m' → (∀ s, s < 81 → m' s = m s) → (u = v → post 1 (xn, nI q, xa, xg, T', L', ay, gs, so, E', B', pv, vl, el)) ∧ (u ≠ v → post 2 (xn, nI q, xa, xg, T', L', ay, gs, so, E', B', pv, vl, el))) : wpX_evaluate post (xn, nI q, xa, xg, T, L, ay, gs, so, E, B, pv, vl, el) (nI k) := by
  unfold wpX_evaluate
  dsimp only
  obtain ⟨hS, hq8, hg8, h48, hWf, hWr, hWg⟩ := hW
  obtain ⟨s9, w1, w2, w3, w4, w5, w6⟩ := hWf.1 k hk
  refine br_f (nI_pos (by omega)) (br_t (nI_lt hk (by omega)) ?_)
  rw [show (1 : Int32) + 2 * nI k = nI (1 + 2 * k) from by rw [show (2 : Int32) * nI k = nI (2 * k) from pk_mul 2 k]; exact nI_add 1 _]
  refine nm_e ?_
  refine xp_gr (t := 81) hM hev (by omega) (by omega) (by omega) (fun T1 L1 hM1 => ?_)
  rw [nI_1]
  refine xp_gr (t := 82) hM1 hev (by omega) (by omega) (by omega) (fun T2 L2 hM2 => ?_)
  rw [mm_set_n (m := m) (s := 81) (j := 1 + 2 * k + 1) (by omega)] at hM2
  have hFC : ∀ w, tm_FC (iv_R m) w → tm_FC (iv_R m) (tm_gk val e2 16 w) := by
    intro w hw c hc hf
    rcases tm_gk_mem w hc with h | h
    · exact hw c h hf
    · omega
  generalize hm2 : mm_set (mm_set m 81 ((tm_gk val e2 16 (m (1 + 2 * k))).take 49)) 82 ((tm_gk val e2 16 (m (1 + 2 * k + 1))).take 49) = m2 at hM2
  have d1 : m2 81 = (tm_gk val e2 16 (m (1 + 2 * k))).take 49 := by rw [← hm2, mm_set_n (by omega), mm_set_s]
  have d2 : m2 82 = (tm_gk val e2 16 (m (1 + 2 * k + 1))).take 49 := by rw [← hm2, mm_set_s]
  have df : ∀ s, s < 81 → m2 s = m s := fun s hs => by rw [← hm2, mm_set_n (by omega), mm_set_n (by omega)]
  have hR2 : ∀ i, i < 32 → iv_R m2 i = iv_R m i := fun i hi => df _ (by omega)
  refine xp_normN (s := 81) (S := [s9]) hS (iv_RU_mono (fun _ _ h => h) hR2 hWr.1) hg hM2 (by omega) (by omega) ?_ ?_ ?_
  · rw [d1]
    intro hl
    rw [List.length_take] at hl
    rw [mm_tl (by omega)]
    exact ⟨tm_gk_P _ _ w1, iv_FC_ext (iv_eqne hR2) (hFC _ w3)⟩
  · rw [d1, tm_N_take, tm_N_ext hR2]
    intro u hu T3 L3 E3 B3 m3 hM3 e3 f3
    refine br_f (by decide) ?_
    have hR3 : ∀ i, i < 32 → iv_R m3 i = iv_R m i := fun i hi => by
      show m3 _ = _
      rw [f3 _ (by omega) (by omega)]
      exact df _ (by omega)
    have d3 : m3 82 = (tm_gk val e2 16 (m (1 + 2 * k + 1))).take 49 := by rw [f3 82 (by omega) (by omega), d2]
    refine xp_normN (s := 82) (S := [s9]) hS (iv_RU_mono (fun _ _ h => h) hR3 hWr.1) hg hM3 (by omega) (by omega) ?_ ?_ ?_
    · rw [d3]
      intro hl
      rw [List.length_take] at hl
      rw [mm_tl (by omega)]
      exact ⟨tm_gk_P _ _ w2, iv_FC_ext (iv_eqne hR3) (hFC _ w4)⟩
    · rw [d3, tm_N_take, tm_N_ext hR3]
      intro v hv T4 L4 E4 B4 m4 hM4 e4 f4
      refine br_f (by decide) ?_
      have a1 : m4 81 = u := by rw [f4 81 (by omega) (by omega), e3]
      obtain ⟨o1, o2⟩ := hO u v hu hv T4 L4 E4 B4 m4 hM4 (fun s hs => by rw [f4 s (by omega) (by omega), f3 s (by omega) (by omega), df s hs])
      refine xp_sameT (a := 81) (b := 82) hM4 (by omega) (by omega) ?_ ?_
      · rw [a1, e4]
        exact fun e => br_f (by decide) (o1 e)
      · rw [a1, e4]
        exact fun e => br_t rfl (o2 e)
    · rw [d3, tm_N_take, tm_N_ext hR3]
      intro hv T4 L4 E4 B4 m4 hM4 f4
      exact br_t rfl (hU (Or.inr hv) T4 L4 E4 B4 m4 hM4 (fun s hs => by rw [f4 s (by omega) (by omega), f3 s (by omega) (by omega), df s hs]))
  · rw [d1, tm_N_take, tm_N_ext hR2]
    intro hu T3 L3 E3 B3 m3 hM3 f3
    exact br_t rfl (hU (Or.inl hu) T3 L3 E3 B3 m3 hM3 (fun s hs => by rw [f3 s (by omega) (by omega), df s hs]))
end XJ
end
section
/-! 20: what a text means: lists of naturals coded as naturals, the four functions, values of texts by a stack: pure -/
def se_co (h t : Nat) : Nat := 2 ^ h * (2 * t + 1)
theorem se_co_0 (t : Nat) : se_co 0 t = 2 * t + 1 := by
  unfold se_co
  rw [Nat.pow_zero, Nat.one_mul]
theorem se_co_s (h t : Nat) : se_co (h + 1) t = 2 * se_co h t := by
  unfold se_co
  rw [Nat.pow_succ, Nat.mul_comm (2 ^ h) 2, Nat.mul_assoc]
theorem se_co_lt (h t : Nat) : t < se_co h t := by
  induction h with
  | zero =>
    rw [se_co_0]
    omega
  | succ h ih =>
    rw [se_co_s]
    omega
theorem se_co_inj {t t' : Nat} (h : Nat) : ∀ h', se_co h t = se_co h' t' → h = h' ∧ t = t' := by
  induction h with
  | zero =>
    intro h' e
    cases h' with
    | zero =>
      rw [se_co_0, se_co_0] at e
      exact ⟨rfl, by omega⟩
    | succ h' =>
      rw [se_co_0, se_co_s] at e
      exfalso
      omega
  | succ h ih =>
    intro h' e
    cases h' with
    | zero =>
      rw [se_co_0, se_co_s] at e
      exfalso
      omega
    | succ h' =>
      rw [se_co_s, se_co_s] at e
      obtain ⟨e1, e2⟩ := ih h' (by omega)
      exact ⟨by omega, e2⟩
theorem se_co_sur (d : Nat) : ∀ n, n ≤ d → 0 < n → ∃ h t, se_co h t = n := by
  induction d with
  | zero =>
    intro n h1 h2
    exfalso
    omega
  | succ d ih =>
    intro n h1 h2
    by_cases ho : n % 2 = 1
    · refine ⟨0, n / 2, ?_⟩
      rw [se_co_0]
      omega
    · obtain ⟨h, t, e⟩ := ih (n / 2) (by omega) (by omega)
      refine ⟨h + 1, t, ?_⟩
      rw [se_co_s, e]
      omega
def se_en : List Nat → Nat
  | [] => 0
  | h :: t => se_co h (se_en t)
theorem se_en_inj (l : List Nat) : ∀ l', se_en l = se_en l' → l = l' := by
  induction l with
  | nil =>
    intro l' e
    cases l' with
    | nil => rfl
    | cons h t =>
      exfalso
      have e' : 0 = se_co h (se_en t) := e
      have := se_co_lt h (se_en t)
      omega
  | cons h t ih =>
    intro l' e
    cases l' with
    | nil =>
      exfalso
      have e' : se_co h (se_en t) = 0 := e
      have := se_co_lt h (se_en t)
      omega
    | cons h' t' =>
      have e' : se_co h (se_en t) = se_co h' (se_en t') := e
      obtain ⟨e1, e2⟩ := se_co_inj h h' e'
      rw [e1, ih t' e2]
theorem se_en_sur (d : Nat) : ∀ n, n ≤ d → ∃ l, se_en l = n := by
  induction d with
  | zero =>
    intro n h
    refine ⟨[], ?_⟩
    show 0 = n
    omega
  | succ d ih =>
    intro n h
    by_cases h0 : n = 0
    · exact ⟨[], h0.symm⟩
    · obtain ⟨a, t, e⟩ := se_co_sur n n (Nat.le_refl _) (by omega)
      have := se_co_lt a t
      obtain ⟨l, hl⟩ := ih t (by omega)
      refine ⟨a :: l, ?_⟩
      show se_co a (se_en l) = n
      rw [hl, e]
noncomputable def se_de (n : Nat) : List Nat := Classical.choose (se_en_sur n n (Nat.le_refl n))
theorem se_en_de (n : Nat) : se_en (se_de n) = n := Classical.choose_spec (se_en_sur n n (Nat.le_refl n))
theorem se_de_en (l : List Nat) : se_de (se_en l) = l := se_en_inj _ _ (se_en_de _)
theorem se_de_0 : se_de 0 = [] := se_de_en []
theorem se_de_co (h t : Nat) : se_de (se_co h t) = h :: se_de t := by
  have e : se_en (h :: se_de t) = se_co h t := by
    show se_co h (se_en (se_de t)) = se_co h t
    rw [se_en_de]
  rw [← e, se_de_en]
/-- what a symbol does with its arguments' values -/
noncomputable def se_f (c : Nat) (a : List Nat) : Nat :=
  if c = 83 then tm_at a 0 + 1 else if c = 67 then se_co (tm_at a 0) (tm_at a 1)
  else if c = 70 then tm_at a 0 + tm_at a 1 else if c = 71 then se_en (se_de (tm_at a 0) ++ se_de (tm_at a 1))
  else if c = 72 then (se_de (tm_at a 0)).length else if c = 73 then se_en (se_de (tm_at a 0)).reverse else 0
noncomputable def se_h (g : tm_G) (rho : Nat → Nat) (c : Nat) (st : List Nat) : Nat := match tm_vn c with
  | some v => rho v
  | none => se_f c (st.take (tm_ar g c))
noncomputable def se_op (g : tm_G) (rho : Nat → Nat) (c : Nat) (st : List Nat) : List Nat := se_h g rho c st :: st.drop (tm_ar g c)
theorem se_h_v {g : tm_G} {rho : Nat → Nat} {c v : Nat} {st : List Nat} (h : tm_vn c = some v) : se_h g rho c st = rho v := by
  unfold se_h
  rw [h]
theorem se_h_n {g : tm_G} {rho : Nat → Nat} {c : Nat} {st : List Nat} (h : tm_vn c = none) : se_h g rho c st = se_f c (st.take (tm_ar g c)) := by
  unfold se_h
  rw [h]
/-- the values of the terms that a text is -/
noncomputable def se_v (g : tm_G) (rho : Nat → Nat) (w : List Nat) : List Nat := w.foldr (se_op g rho) []
theorem se_v_nil (g : tm_G) (rho : Nat → Nat) : se_v g rho [] = [] := rfl
theorem se_v_cons (g : tm_G) (rho : Nat → Nat) (c : Nat) (w : List Nat) : se_v g rho (c :: w) = se_op g rho c (se_v g rho w) := rfl
theorem se_v_app {g : tm_G} (rho : Nat → Nat) (z : List Nat) (u : List Nat) : ∀ S, tm_P g S u → se_v g rho (u ++ z) = se_v g rho u ++ se_v g rho z ∧ (se_v g rho u).length = S.length := by
  induction u with
  | nil =>
    intro S h
    have h' : S = [] := h
    subst h'
    exact ⟨rfl, rfl⟩
  | cons c u ih =>
    intro S h
    obtain ⟨a, s, S', hg, rfl, hP⟩ := h
    obtain ⟨e, l⟩ := ih _ hP
    rw [List.length_append] at l
    rw [List.cons_append, se_v_cons, se_v_cons, e]
    constructor
    · unfold se_op
      rw [tm_ar_some hg, List.drop_append_of_le_length (by omega), List.cons_append]
      congr 1
      cases hv : tm_vn c with
      | some v => rw [se_h_v hv, se_h_v hv]
      | none => rw [se_h_n hv, se_h_n hv, tm_ar_some hg, List.take_append_of_le_length (by omega)]
    · unfold se_op
      rw [List.length_cons, List.length_cons, tm_ar_some hg, List.length_drop]
      omega
theorem se_v_len {g : tm_G} (rho : Nat → Nat) {u S : List Nat} (h : tm_P g S u) : (se_v g rho u).length = S.length := (se_v_app rho [] u S h).2
theorem se_one {l : List Nat} (h : l.length = 1) : l = [tm_at l 0] := by
  cases l with
  | nil => cases h
  | cons a l =>
    cases l with
    | nil => rfl
    | cons b l =>
      rw [List.length_cons, List.length_cons] at h
      omega
theorem se_v_one {g : tm_G} (rho : Nat → Nat) {u : List Nat} {s : Nat} (h : tm_P g [s] u) : se_v g rho u = [tm_at (se_v g rho u) 0] := se_one (se_v_len rho h)
theorem se_v_ctx {g : tm_G} {rho : Nat → Nat} {z z' : List Nat} (h : se_v g rho z = se_v g rho z') (x : List Nat) : se_v g rho (x ++ z) = se_v g rho (x ++ z') := by
  induction x with
  | nil => exact h
  | cons c x ih => rw [List.cons_append, List.cons_append, se_v_cons, se_v_cons, ih]
theorem se_op_ext {g : tm_G} {rho rho' : Nat → Nat} {c : Nat} (st : List Nat) (h : ∀ v, tm_vn c = some v → rho v = rho' v) : se_op g rho c st = se_op g rho' c st := by
  unfold se_op
  congr 1
  cases hv : tm_vn c with
  | some v => rw [se_h_v hv, se_h_v hv, h v hv]
  | none => rw [se_h_n hv, se_h_n hv]
theorem se_op_var {g : tm_G} (hV : tm_V g) {rho : Nat → Nat} {c v : Nat} (st : List Nat) (h : tm_vn c = some v) : se_op g rho c st = rho v :: st := by
  unfold se_op
  rw [se_h_v h, tm_V_ar hV h, List.drop_zero]
theorem se_v_ext {g : tm_G} {rho rho' : Nat → Nat} (w : List Nat) : (∀ c, c ∈ w → ∀ v, tm_vn c = some v → rho v = rho' v) → se_v g rho w = se_v g rho' w := by
  induction w with
  | nil => exact fun _ => rfl
  | cons c w ih =>
    intro h
    rw [se_v_cons, se_v_cons, ih (fun d hd => h d (List.mem_cons_of_mem _ hd)), se_op_ext _ (h c List.mem_cons_self)]
/-- a text for each variable -/
theorem se_fm {g : tm_G} (hV : tm_V g) {rho rho' : Nat → Nat} {f : Nat → List Nat} (w : List Nat) : (∀ c, c ∈ w → (f c = [c] ∧ ∀ v, tm_vn c = some v → rho v = rho' v) ∨ (∃ v s, tm_vn c = some v ∧ tm_P g [s] (f c) ∧ se_v g rho (f c) = [rho' v])) → se_v g rho (w.flatMap f) = se_v g rho' w := by
  induction w with
  | nil => exact fun _ => rfl
  | cons c w ih =>
    intro h
    have hi := ih (fun d hd => h d (List.mem_cons_of_mem _ hd))
    rw [List.flatMap_cons, se_v_cons]
    rcases h c List.mem_cons_self with ⟨e, hr⟩ | ⟨v, s, hv, hP, e⟩
    · rw [e, List.cons_append, List.nil_append, se_v_cons, hi]
      exact se_op_ext _ hr
    · rw [(se_v_app rho _ _ _ hP).1, e, hi, se_op_var hV _ hv]
      rfl
theorem se_in_fm (g : tm_G) (w : List Nat) (b : Nat → Option Nat) (p : List Nat) : tm_in g w b p = p.flatMap (tm_i1 g w b) := by
  induction p with
  | nil => rfl
  | cons c p ih =>
    show tm_i1 g w b c ++ tm_in g w b p = _
    rw [ih, List.flatMap_cons]
/-- the values that a match gives the pattern's variables -/
noncomputable def se_rb (g : tm_G) (rho : Nat → Nat) (w : List Nat) (b : Nat → Option Nat) (v : Nat) : Nat := match b v with
  | some q => tm_at (se_v g rho (tm_sub g w q)) 0
  | none => rho v
theorem se_rb_s {g : tm_G} {rho : Nat → Nat} {w : List Nat} {b : Nat → Option Nat} {v q : Nat} (h : b v = some q) : se_rb g rho w b v = tm_at (se_v g rho (tm_sub g w q)) 0 := by
  unfold se_rb
  rw [h]
theorem se_rb_n {g : tm_G} {rho : Nat → Nat} {w : List Nat} {b : Nat → Option Nat} {v : Nat} (h : b v = none) : se_rb g rho w b v = rho v := by
  unfold se_rb
  rw [h]
theorem se_in {g : tm_G} (hV : tm_V g) {rho : Nat → Nat} {w : List Nat} {b : Nat → Option Nat} (hT : tm_T g w b) (p : List Nat) : se_v g rho (tm_in g w b p) = se_v g (se_rb g rho w b) p := by
  rw [se_in_fm]
  apply se_fm hV
  intro c _
  cases hv : tm_vn c with
  | none => exact Or.inl ⟨tm_i1_n hv, fun v z => nomatch z⟩
  | some v =>
    cases hb : b v with
    | none =>
      refine Or.inl ⟨tm_i1_u hv hb, fun v' z => ?_⟩
      rw [← Option.some.inj z, se_rb_n hb]
    | some q =>
      obtain ⟨s, hg, hP⟩ := hT c v q hv hb
      refine Or.inr ⟨v, s, rfl, ?_, ?_⟩
      · rw [tm_i1_b hv hb]
        exact hP
      · rw [tm_i1_b hv hb, se_rb_s hb]
        exact se_v_one rho hP
theorem se_sub_app (g : tm_G) (w : List Nat) (q : Nat) : w.drop q = tm_sub g w q ++ w.drop (tm_e g w q) := by
  unfold tm_sub tm_e
  rw [← List.drop_drop, List.take_append_drop]
theorem se_mt {g : tm_G} {pat : Bool} {w : List Nat} (p : List Nat) : ∀ q b r, (pat = true ∨ b = fun _ => none) → tm_mt g pat w p q b = some r → (∀ v q0, b v = some q0 → r.2 v = some q0) ∧ w.drop q = tm_in g w r.2 p ++ w.drop r.1 := by
  induction p with
  | nil =>
    intro q b r _ h
    rw [tm_mt_nil] at h
    rw [← Option.some.inj h]
    exact ⟨fun _ _ z => z, rfl⟩
  | cons c p ih =>
    intro q b r hp h
    have h0 := h
    obtain ⟨hq, hc⟩ := tm_mt_inv h
    show _ ∧ w.drop q = (tm_i1 g w r.2 c ++ tm_in g w r.2 p) ++ w.drop r.1
    rcases hc with ⟨v, hpt, hvc, ⟨hb, hm⟩ | ⟨q0, hb, hs, hm⟩⟩ | ⟨hs, hat, hm⟩
    · obtain ⟨i1, i2⟩ := ih _ _ _ (Or.inl hpt) hm
      refine ⟨fun v2 q2 z => i1 v2 q2 ?_, ?_⟩
      · unfold tm_bu
        rw [if_neg ?_]
        · exact z
        · intro e
          rw [e, hb] at z
          cases z
      · have hr : r.2 v = some q := i1 v q (by unfold tm_bu; rw [if_pos rfl])
        rw [tm_i1_b hvc hr, List.append_assoc, ← i2]
        exact se_sub_app g w q
    · obtain ⟨i1, i2⟩ := ih _ _ _ (Or.inl hpt) hm
      refine ⟨i1, ?_⟩
      rw [tm_i1_b hvc (i1 v q0 hb), hs, List.append_assoc, ← i2]
      exact se_sub_app g w q
    · obtain ⟨i1, i2⟩ := ih _ _ _ hp hm
      refine ⟨i1, ?_⟩
      have hi : tm_i1 g w r.2 c = [c] := by
        cases hv : tm_vn c with
        | none => exact tm_i1_n hv
        | some v =>
          rcases hs with hs | hs
          · subst hs
            have e := tm_mt_fix _ _ _ _ h0
            rcases hp with hp | hp
            · cases hp
            · refine tm_i1_u hv ?_
              rw [e, hp]
          · rw [hv] at hs
            cases hs
      rw [hi, List.append_assoc, ← i2, tm_drop_cons hq, hat]
      rfl
end
section
/-! 21: REPLACE and NORMALIZE keep values; texts of constructors are their values: pure -/
theorem se_R {g : tm_G} {pat : Bool} {rho : Nat → Nat} {w p0 to : List Nat} {c0 s : Nat} (hv : tm_V g) (hf : tm_P g [s] (c0 :: p0)) (ht : tm_P g [s] to) (hh : pat = false ∨ tm_vn c0 = none)
    (H : ∀ b, (pat = false → b = fun _ => none) → tm_T g w b → (∀ c, c ∈ tm_in g w b (c0 :: p0) → c ∈ w) → se_v g rho (tm_in g w b to) = se_v g rho (tm_in g w b (c0 :: p0))) : ∀ d i S, w.length - i ≤ d → tm_P g S (w.drop i) → se_v g rho (tm_R g pat w (c0 :: p0) to i).2 = se_v g rho (w.drop i) := by
  intro d
  induction d with
  | zero =>
    intro i S h hP
    rw [tm_R_out (by omega), List.drop_eq_nil_of_le (by omega)]
  | succ d ih =>
    intro i S h hP
    by_cases hi : i < w.length
    · have he := tm_e_gt g hi
      have hP0 := hP
      rw [tm_drop_cons hi] at hP
      obtain ⟨a1, s1, S', hg1, rfl, hP1⟩ := hP
      cases hm : tm_mt g pat w (c0 :: p0) i (fun _ => none) with
      | some r =>
        rw [tm_R_hit hi hm]
        dsimp only
        obtain ⟨_, hc⟩ := tm_mt_inv hm
        have hat : tm_at w i = c0 := by
          rcases hc with ⟨v, hp, hvc, _⟩ | ⟨_, hat, _⟩
          · rcases hh with hh | hh
            · rw [hh] at hp; cases hp
            · rw [hh] at hvc; cases hvc
          · exact hat
        have hf' := hf
        obtain ⟨a, s2, S2, hg, hS, _⟩ := hf'
        obtain ⟨rfl, _⟩ := List.cons.inj hS
        rw [hat, hg] at hg1
        obtain ⟨rfl, rfl⟩ := Prod.mk.inj (Option.some.inj hg1)
        have hT := tm_mt_ty hv _ [s] S' i _ r hf hP0 tm_T_none hm
        have hr := (tm_sub_P hP0).2
        have hend : r.1 = tm_e g w i := tm_mt_end hv _ _ _ _ _ hf hm
        obtain ⟨_, hd⟩ := se_mt _ _ _ _ (Or.inr rfl) hm
        rw [hend] at hd
        have hb : pat = false → r.2 = fun _ => none := by
          intro z
          subst z
          exact tm_mt_fix _ _ _ _ hm
        have hsub : ∀ c, c ∈ tm_in g w r.2 (c0 :: p0) → c ∈ w := by
          intro c hc
          apply List.mem_of_mem_drop (i := i)
          rw [hd]
          exact List.mem_append_left _ hc
        rw [(se_v_app rho _ _ _ (tm_in_ty hT _ _ ht)).1, ih _ _ (by omega) hr, H r.2 hb hT hsub, ← (se_v_app rho _ _ _ (tm_in_ty hT _ _ hf)).1, ← hd]
      | none =>
        rw [tm_R_miss hi hm, tm_drop_cons hi]
        dsimp only
        rw [se_v_cons, se_v_cons, ih _ _ (by omega) hP1]
    · rw [tm_R_out (by omega), List.drop_eq_nil_of_le (by omega)]
/-- in FIXED mode -/
theorem se_Rf {g : tm_G} {rho : Nat → Nat} {w fr to : List Nat} {s : Nat} {S : List Nat} (hv : tm_V g) (hf : tm_P g [s] fr) (ht : tm_P g [s] to) (hP : tm_P g S w) (H : (∀ c, c ∈ fr → c ∈ w) → se_v g rho to = se_v g rho fr) : se_v g rho (tm_R g false w fr to 0).2 = se_v g rho w := by
  cases fr with
  | nil => exact absurd hf (fun z => nomatch (show [s] = [] from z))
  | cons c0 p0 =>
    have := se_R (rho := rho) (w := w) hv hf ht (Or.inl rfl) (fun b hb _ hs => by
      rw [hb rfl, tm_in_none, tm_in_none]
      rw [hb rfl, tm_in_none] at hs
      exact H hs) w.length 0 S (Nat.sub_le _ _) (by rw [List.drop_zero]; exact hP)
    rw [List.drop_zero] at this
    exact this
/-- in PATTERN mode -/
theorem se_Rp {g : tm_G} {rho : Nat → Nat} {w fr to : List Nat} {s : Nat} {S : List Nat} (hv : tm_V g) (hf : tm_P g [s] fr) (ht : tm_P g [s] to) (hP : tm_P g S w) (hn : ¬ (fr.length = 1 ∧ tm_vn (tm_at fr 0) ≠ none)) (H : ∀ rh, se_v g rh to = se_v g rh fr) : se_v g rho (tm_R g true w fr to 0).2 = se_v g rho w := by
  obtain ⟨c0, p0, rfl, hc⟩ := tm_head hv hf hn
  have := se_R (pat := true) (rho := rho) (w := w) hv hf ht (Or.inr hc) (fun b _ hT _ => by
    rw [se_in hv hT, se_in hv hT]
    exact H _) w.length 0 S (Nat.sub_le _ _) (by rw [List.drop_zero]; exact hP)
  rw [List.drop_zero] at this
  exact this
/-- the rules are true -/
def se_RV (g : tm_G) (R : Nat → List Nat) : Prop := ∀ f k, f < 8 → k < 2 → R (4 * f + 2 * k) ≠ [] → (∀ rho, se_v g rho (R (4 * f + 2 * k + 1)) = se_v g rho (R (4 * f + 2 * k))) ∧ (∀ c, c ∈ R (4 * f + 2 * k + 1) → tm_vn c ≠ none → c ∈ R (4 * f + 2 * k))
theorem se_st {g : tm_G} {R : Nat → List Nat} {w S : List Nat} {i : Nat} {rho : Nat → Nat} (hG : tm_GS g) (hR : tm_RU g R) (hV : se_RV g R) (hP : tm_P g S w) (hF : tm_FC R w) (hr : tm_rd w i) : se_v g rho (tm_st g R w i) = se_v g rho w := by
  obtain ⟨r, hm, hne, hst, _, _⟩ := tm_st_ok hG hR hP hF hr
  have hl := tm_rd_lt hr
  have hfn : tm_fn (tm_at w i) := hr.1
  obtain ⟨k, hk⟩ : ∃ k, tm_kd (tm_at w (i + 1)) = some k := Option.ne_none_iff_exists'.mp hr.2
  have hk2 : k < 2 := by
    have := tm_kd_c hk
    omega
  have hri : tm_ri w i = 4 * (tm_at w i - 70) + 2 * k := by
    unfold tm_ri
    rw [hk]
    rfl
  rw [hri] at hm hne hst
  have hval := (hV (tm_at w i - 70) k (by omega) hk2 hne).1
  obtain ⟨K, vs, s, hl1, hkK, hvs, hnd, hPl, hPr, hFr⟩ := hR (tm_at w i - 70) k (by omega) hk2 hne
  obtain ⟨af, sf, S1, hgf, hPf, hP1⟩ := tm_P_suf hP (i := i) (by omega)
  have hPl0 := hPl
  rw [hl1, show 70 + (tm_at w i - 70) = tm_at w i by omega] at hPl
  obtain ⟨a2, s2, S2, hg2, hS2, hP2⟩ := hPl
  obtain ⟨rfl, rfl⟩ := List.cons.inj hS2
  rw [hgf] at hg2
  obtain ⟨rfl, rfl⟩ := Prod.mk.inj (Option.some.inj hg2)
  have hT := tm_mt_ty hG.1 _ _ S1 i _ r hPl0 hPf tm_T_none hm
  have hend : r.1 = tm_e g w i := tm_mt_end hG.1 _ _ _ _ _ hPl0 hm
  obtain ⟨_, hd⟩ := se_mt _ _ _ _ (Or.inl rfl) hm
  rw [hend] at hd
  have hw : w = w.take i ++ (tm_in g w r.2 (R (4 * (tm_at w i - 70) + 2 * k)) ++ w.drop (tm_e g w i)) := by
    rw [← hd, List.take_append_drop]
  have e1 : se_v g rho (tm_st g R w i) = se_v g rho (w.take i ++ (tm_in g w r.2 (R (4 * (tm_at w i - 70) + 2 * k)) ++ w.drop (tm_e g w i))) := by
    rw [hst]
    apply se_v_ctx
    rw [(se_v_app rho _ _ _ (tm_in_ty hT _ _ hPr)).1, (se_v_app rho _ _ _ (tm_in_ty hT _ _ hPl0)).1, se_in hG.1 hT, se_in hG.1 hT, hval]
  rw [e1, ← hw]
theorem se_nz {g : tm_G} {R : Nat → List Nat} {S : List Nat} {rho : Nat → Nat} (hG : tm_GS g) (hR : tm_RU g R) (hV : se_RV g R) (n : Nat) : ∀ w w', tm_P g S w → tm_FC R w → tm_nz g R n w = some w' → se_v g rho w' = se_v g rho w ∧ tm_rx w' w'.length = none := by
  induction n with
  | zero =>
    intro w w' hP hF h
    cases hx : tm_rx w w.length with
    | none =>
      rw [tm_nz_no hx] at h
      rw [← Option.some.inj h]
      exact ⟨rfl, hx⟩
    | some i =>
      rw [tm_nz_0 hx] at h
      cases h
  | succ n ih =>
    intro w w' hP hF h
    cases hx : tm_rx w w.length with
    | none =>
      rw [tm_nz_no hx] at h
      rw [← Option.some.inj h]
      exact ⟨rfl, hx⟩
    | some i =>
      rw [tm_nz_s hx] at h
      have hrd := (tm_rx_lt _ _ hx).2
      obtain ⟨r, _, _, _, h1, h2⟩ := tm_st_ok hG hR hP hF hrd
      by_cases h3 : (tm_st g R w i).length ≤ 48
      · rw [if_pos h3] at h
        obtain ⟨i1, i2⟩ := ih _ _ h1 h2 h
        exact ⟨i1.trans (se_st hG hR hV hP hF hrd), i2⟩
      · rw [if_neg h3] at h
        cases h
theorem se_N {g : tm_G} {R : Nat → List Nat} {S : List Nat} (hG : tm_GS g) (hR : tm_RU g R) (hV : se_RV g R) {w w' : List Nat} (hP : tm_P g S w) (hF : tm_FC R w) (h : tm_N g R w = some w') : (∀ rho, se_v g rho w' = se_v g rho w) ∧ tm_rx w' w'.length = none := by
  unfold tm_N at h
  by_cases hl : w.length ≤ 48
  · rw [if_pos hl] at h
    exact ⟨fun rho => (se_nz (rho := rho) hG hR hV 128 w w' hP hF h).1, (se_nz (rho := fun _ => 0) hG hR hV 128 w w' hP hF h).2⟩
  · rw [if_neg hl] at h
    cases h
/-! a text without variables and without a redex is made of constructors -/
theorem se_rx_no {w : List Nat} (n : Nat) : tm_rx w n = none → ∀ i, i < n → ¬ tm_rd w i := by
  induction n with
  | zero => exact fun _ i h => absurd h (Nat.not_lt_zero i)
  | succ n ih =>
    intro h i hi
    rw [tm_rx] at h
    by_cases hr : tm_rd w n
    · rw [if_pos hr] at h
      cases h
    · rw [if_neg hr] at h
      by_cases e : i = n
      · rw [e]
        exact hr
      · exact ih h i (by omega)
theorem se_cons_i {n : Nat} {A : Nat → List Nat} {Z : Nat → Nat} (hS : tm_SG n A Z) {w S : List Nat} (hP : tm_P (tm_sg n A Z) S w) (hg : ∀ c, c ∈ w → tm_vn c = none) (hx : tm_rx w w.length = none) : ∀ d i, w.length - i ≤ d → i < w.length → tm_kd (tm_at w i) ≠ none := by
  intro d
  induction d with
  | zero =>
    intro i h hi
    omega
  | succ d ih =>
    intro i h hi
    obtain ⟨a, s, S', hgi, _, hP1⟩ := tm_P_suf hP hi
    have hvn := hg _ (tm_at_mem hi)
    have hnr := se_rx_no _ hx i hi
    have hn := hS.1
    have hfun : ¬ tm_fn (tm_at w i) := by
      intro hf
      have hne := (tm_sg_GS hS).2.2 _ _ _ hf hgi
      have hl : i + 1 < w.length := by
        apply Nat.lt_of_not_le
        intro hle
        rw [List.drop_eq_nil_of_le hle] at hP1
        have hP1' : a ++ S' = [] := hP1
        exact hne (List.append_eq_nil_iff.mp hP1').1
      exact hnr ⟨hf, ih (i + 1) (by omega) hl⟩
    rcases tm_sg_c n A Z (tm_at w i) hn with ⟨e, _⟩ | ⟨e, _⟩ | ⟨e, _⟩ | ⟨e, _⟩ | ⟨e, _⟩ | ⟨e, _⟩ | ⟨f, hf, e, _⟩ | ⟨q, _⟩
    · rw [e]; decide
    · rw [e]; decide
    · rw [e]; decide
    · rw [e]; decide
    · exfalso
      unfold tm_vn at hvn
      rw [if_pos e] at hvn
      cases hvn
    · exfalso
      unfold tm_vn at hvn
      rw [if_neg (by omega), if_pos e] at hvn
      cases hvn
    · exact absurd (show tm_fn (tm_at w i) by omega) hfun
    · rw [hgi] at q
      cases q
/-- the values of constructors -/
theorem se_o90 {n : Nat} {A : Nat → List Nat} {Z : Nat → Nat} {rho : Nat → Nat} {st : List Nat} : se_op (tm_sg n A Z) rho 90 st = 0 :: st := rfl
theorem se_o78 {n : Nat} {A : Nat → List Nat} {Z : Nat → Nat} {rho : Nat → Nat} {st : List Nat} : se_op (tm_sg n A Z) rho 78 st = 0 :: st := rfl
theorem se_o83 {n : Nat} {A : Nat → List Nat} {Z : Nat → Nat} {rho : Nat → Nat} {x : Nat} {st : List Nat} : se_op (tm_sg n A Z) rho 83 (x :: st) = (x + 1) :: st := rfl
theorem se_o67 {n : Nat} {A : Nat → List Nat} {Z : Nat → Nat} {rho : Nat → Nat} {x y : Nat} {st : List Nat} : se_op (tm_sg n A Z) rho 67 (x :: y :: st) = se_co x y :: st := rfl
theorem se_l1 {l : List Nat} {k : Nat} (h : l.length = k + 1) : ∃ x t, l = x :: t ∧ t.length = k := by
  cases l with
  | nil => cases h
  | cons x t => exact ⟨x, t, rfl, by rw [List.length_cons] at h; omega⟩
theorem se_uniq {n : Nat} {A : Nat → List Nat} {Z : Nat → Nat} {rho : Nat → Nat} (u : List Nat) : ∀ S u', (∀ c, c ∈ u → tm_kd c ≠ none) → (∀ c, c ∈ u' → tm_kd c ≠ none) → tm_P (tm_sg n A Z) S u → tm_P (tm_sg n A Z) S u' → se_v (tm_sg n A Z) rho u = se_v (tm_sg n A Z) rho u' → u = u' := by
  induction u with
  | nil =>
    intro S u' _ _ h1 h2 _
    have h1' : S = [] := h1
    subst h1'
    cases u' with
    | nil => rfl
    | cons c u' =>
      obtain ⟨a, s, S', _, e, _⟩ := h2
      cases e
  | cons c u ih =>
    intro S u' k1 k2 h1 h2 he
    obtain ⟨a, s, S', hg, rfl, hP⟩ := h1
    cases u' with
    | nil =>
      have h2' : s :: S' = [] := h2
      cases h2'
    | cons d u' =>
      obtain ⟨a2, s2, S2, hg2, hS2, hP2⟩ := h2
      obtain ⟨rfl, rfl⟩ := List.cons.inj hS2
      have hk1 := k1 c List.mem_cons_self
      have hk2 := k2 d List.mem_cons_self
      have j1 : ∀ e, e ∈ u → tm_kd e ≠ none := fun e he => k1 e (List.mem_cons_of_mem _ he)
      have j2 : ∀ e, e ∈ u' → tm_kd e ≠ none := fun e he => k2 e (List.mem_cons_of_mem _ he)
      have l1 := se_v_len rho hP
      have l2 := se_v_len rho hP2
      rw [se_v_cons, se_v_cons] at he
      obtain ⟨x, hx⟩ := Option.ne_none_iff_exists'.mp hk1
      obtain ⟨y, hy⟩ := Option.ne_none_iff_exists'.mp hk2
      have key : c = d → a = a2 → se_v (tm_sg n A Z) rho u = se_v (tm_sg n A Z) rho u' → c :: u = d :: u' := by
        intro e1 e2 e3
        subst e1
        subst e2
        rw [ih _ u' j1 j2 hP hP2 e3]
      rcases tm_kd_c hx with ⟨_, e | e⟩ | ⟨_, e | e⟩ <;> rcases tm_kd_c hy with ⟨_, e' | e'⟩ | ⟨_, e' | e'⟩ <;> subst e <;> subst e'
      · rw [tm_sg_90] at hg hg2
        obtain ⟨rfl, rfl⟩ := Prod.mk.inj (Option.some.inj hg)
        obtain ⟨rfl, _⟩ := Prod.mk.inj (Option.some.inj hg2)
        rw [se_o90, se_o90] at he
        exact key rfl rfl (List.cons.inj he).2
      · rw [tm_sg_90] at hg
        rw [tm_sg_78] at hg2
        have q1 := (Prod.mk.inj (Option.some.inj hg)).2
        have q2 := (Prod.mk.inj (Option.some.inj hg2)).2
        exfalso
        omega
      · rw [tm_sg_90] at hg
        rw [tm_sg_83] at hg2
        obtain ⟨rfl, rfl⟩ := Prod.mk.inj (Option.some.inj hg)
        obtain ⟨rfl, _⟩ := Prod.mk.inj (Option.some.inj hg2)
        obtain ⟨b, t, eb, _⟩ := se_l1 (k := S'.length) (show (se_v (tm_sg n A Z) rho u').length = S'.length + 1 from l2)
        rw [eb, se_o90, se_o83] at he
        have := (List.cons.inj he).1
        exfalso
        omega
      · rw [tm_sg_90] at hg
        rw [tm_sg_67] at hg2
        have q1 := (Prod.mk.inj (Option.some.inj hg)).2
        have q2 := (Prod.mk.inj (Option.some.inj hg2)).2
        exfalso
        omega
      · rw [tm_sg_78] at hg
        rw [tm_sg_90] at hg2
        have q1 := (Prod.mk.inj (Option.some.inj hg)).2
        have q2 := (Prod.mk.inj (Option.some.inj hg2)).2
        exfalso
        omega
      · rw [tm_sg_78] at hg hg2
        obtain ⟨rfl, rfl⟩ := Prod.mk.inj (Option.some.inj hg)
        obtain ⟨rfl, _⟩ := Prod.mk.inj (Option.some.inj hg2)
        rw [se_o78, se_o78] at he
        exact key rfl rfl (List.cons.inj he).2
      · rw [tm_sg_78] at hg
        rw [tm_sg_83] at hg2
        have q1 := (Prod.mk.inj (Option.some.inj hg)).2
        have q2 := (Prod.mk.inj (Option.some.inj hg2)).2
        exfalso
        omega
      · rw [tm_sg_78] at hg
        rw [tm_sg_67] at hg2
        obtain ⟨rfl, rfl⟩ := Prod.mk.inj (Option.some.inj hg)
        obtain ⟨rfl, _⟩ := Prod.mk.inj (Option.some.inj hg2)
        obtain ⟨b, t, eb, lt⟩ := se_l1 (k := S'.length + 1) (show (se_v (tm_sg n A Z) rho u').length = S'.length + 1 + 1 from l2)
        obtain ⟨b2, t2, eb2, _⟩ := se_l1 lt
        rw [eb, eb2, se_o78, se_o67] at he
        have h3 := (List.cons.inj he).1
        have := se_co_lt b b2
        exfalso
        omega
      · rw [tm_sg_83] at hg
        rw [tm_sg_90] at hg2
        obtain ⟨rfl, rfl⟩ := Prod.mk.inj (Option.some.inj hg)
        obtain ⟨rfl, _⟩ := Prod.mk.inj (Option.some.inj hg2)
        obtain ⟨b, t, eb, _⟩ := se_l1 (k := S'.length) (show (se_v (tm_sg n A Z) rho u).length = S'.length + 1 from l1)
        rw [eb, se_o90, se_o83] at he
        have := (List.cons.inj he).1
        exfalso
        omega
      · rw [tm_sg_83] at hg
        rw [tm_sg_78] at hg2
        have q1 := (Prod.mk.inj (Option.some.inj hg)).2
        have q2 := (Prod.mk.inj (Option.some.inj hg2)).2
        exfalso
        omega
      · rw [tm_sg_83] at hg hg2
        obtain ⟨rfl, rfl⟩ := Prod.mk.inj (Option.some.inj hg)
        obtain ⟨rfl, _⟩ := Prod.mk.inj (Option.some.inj hg2)
        obtain ⟨b, t, eb, _⟩ := se_l1 (k := S'.length) (show (se_v (tm_sg n A Z) rho u).length = S'.length + 1 from l1)
        obtain ⟨b', t', eb', _⟩ := se_l1 (k := S'.length) (show (se_v (tm_sg n A Z) rho u').length = S'.length + 1 from l2)
        rw [eb, eb', se_o83, se_o83] at he
        obtain ⟨h3, h4⟩ := List.cons.inj he
        refine key rfl rfl ?_
        rw [eb, eb', h4, show b = b' by omega]
      · rw [tm_sg_83] at hg
        rw [tm_sg_67] at hg2
        have q1 := (Prod.mk.inj (Option.some.inj hg)).2
        have q2 := (Prod.mk.inj (Option.some.inj hg2)).2
        exfalso
        omega
      · rw [tm_sg_67] at hg
        rw [tm_sg_90] at hg2
        have q1 := (Prod.mk.inj (Option.some.inj hg)).2
        have q2 := (Prod.mk.inj (Option.some.inj hg2)).2
        exfalso
        omega
      · rw [tm_sg_67] at hg
        rw [tm_sg_78] at hg2
        obtain ⟨rfl, rfl⟩ := Prod.mk.inj (Option.some.inj hg)
        obtain ⟨rfl, _⟩ := Prod.mk.inj (Option.some.inj hg2)
        obtain ⟨b, t, eb, lt⟩ := se_l1 (k := S'.length + 1) (show (se_v (tm_sg n A Z) rho u).length = S'.length + 1 + 1 from l1)
        obtain ⟨b2, t2, eb2, _⟩ := se_l1 lt
        rw [eb, eb2, se_o78, se_o67] at he
        have h3 := (List.cons.inj he).1
        have := se_co_lt b b2
        exfalso
        omega
      · rw [tm_sg_67] at hg
        rw [tm_sg_83] at hg2
        have q1 := (Prod.mk.inj (Option.some.inj hg)).2
        have q2 := (Prod.mk.inj (Option.some.inj hg2)).2
        exfalso
        omega
      · rw [tm_sg_67] at hg hg2
        obtain ⟨rfl, rfl⟩ := Prod.mk.inj (Option.some.inj hg)
        obtain ⟨rfl, _⟩ := Prod.mk.inj (Option.some.inj hg2)
        obtain ⟨b, t, eb, lt⟩ := se_l1 (k := S'.length + 1) (show (se_v (tm_sg n A Z) rho u).length = S'.length + 1 + 1 from l1)
        obtain ⟨b2, t2, eb2, _⟩ := se_l1 lt
        obtain ⟨b', t', eb', lt'⟩ := se_l1 (k := S'.length + 1) (show (se_v (tm_sg n A Z) rho u').length = S'.length + 1 + 1 from l2)
        obtain ⟨b2', t2', eb2', _⟩ := se_l1 lt'
        rw [eb, eb2, eb', eb2', se_o67, se_o67] at he
        obtain ⟨h3, h4⟩ := List.cons.inj he
        obtain ⟨h5, h6⟩ := se_co_inj b b' h3
        refine key rfl rfl ?_
        rw [eb, eb2, eb', eb2', h4, h5, h6]
end
section
/-! 22: texts without variables stay so; a true equation never evaluates to two different texts: pure -/
theorem se_mt_b {g : tm_G} {w : List Nat} (p : List Nat) : ∀ q b r, tm_mt g true w p q b = some r → ∀ c v, c ∈ p → tm_vn c = some v → ∃ q0, r.2 v = some q0 := by
  induction p with
  | nil => exact fun q b r _ c v hc => nomatch hc
  | cons d p ih =>
    intro q b r h c v hc hv
    obtain ⟨hq, hcs⟩ := tm_mt_inv h
    rcases List.mem_cons.mp hc with e | hc
    · subst e
      rcases hcs with ⟨v', _, hvc, hb⟩ | ⟨hs, _, _⟩
      · rw [hv] at hvc
        obtain rfl := Option.some.inj hvc
        rcases hb with ⟨_, hm⟩ | ⟨q0, hb, _, hm⟩
        · exact ⟨q, (se_mt _ _ _ _ (Or.inl rfl) hm).1 v q (by unfold tm_bu; rw [if_pos rfl])⟩
        · exact ⟨q0, (se_mt _ _ _ _ (Or.inl rfl) hm).1 v q0 hb⟩
      · rcases hs with z | z
        · cases z
        · rw [hv] at z
          cases z
    · rcases hcs with ⟨_, _, _, ⟨_, hm⟩ | ⟨_, _, _, hm⟩⟩ | ⟨_, _, hm⟩
      · exact ih _ _ _ hm c v hc hv
      · exact ih _ _ _ hm c v hc hv
      · exact ih _ _ _ hm c v hc hv
def se_gr (w : List Nat) : Prop := ∀ c, c ∈ w → tm_vn c = none
theorem se_in_g {g : tm_G} {w : List Nat} {b : Nat → Option Nat} (hw : se_gr w) (p : List Nat) (hb : ∀ c v, c ∈ p → tm_vn c = some v → ∃ q0, b v = some q0) : se_gr (tm_in g w b p) := by
  intro c hc
  rw [se_in_fm] at hc
  obtain ⟨d, hd, hcd⟩ := List.mem_flatMap.mp hc
  cases hv : tm_vn d with
  | none =>
    rw [tm_i1_n hv] at hcd
    rw [List.mem_singleton.mp hcd]
    exact hv
  | some v =>
    obtain ⟨q0, hq⟩ := hb d v hd hv
    rw [tm_i1_b hv hq] at hcd
    exact hw c (tm_sub_mem hcd)
theorem se_st_g {g : tm_G} {R : Nat → List Nat} {w S : List Nat} {i : Nat} (hG : tm_GS g) (hR : tm_RU g R) (hV : se_RV g R) (hP : tm_P g S w) (hF : tm_FC R w) (hr : tm_rd w i) (hw : se_gr w) : se_gr (tm_st g R w i) := by
  obtain ⟨r, hm, hne, hst, _, _⟩ := tm_st_ok hG hR hP hF hr
  have hfn : tm_fn (tm_at w i) := hr.1
  obtain ⟨k, hk⟩ : ∃ k, tm_kd (tm_at w (i + 1)) = some k := Option.ne_none_iff_exists'.mp hr.2
  have hk2 : k < 2 := by
    have := tm_kd_c hk
    omega
  have hri : tm_ri w i = 4 * (tm_at w i - 70) + 2 * k := by
    unfold tm_ri
    rw [hk]
    rfl
  rw [hri] at hm hne hst
  have hvar := (hV (tm_at w i - 70) k (by omega) hk2 hne).2
  rw [hst]
  intro c hc
  rcases List.mem_append.mp hc with h | h
  · exact hw c (List.mem_of_mem_take h)
  · rcases List.mem_append.mp h with h | h
    · refine se_in_g hw _ (fun d v hd hv => ?_) c h
      refine se_mt_b _ _ _ _ hm d v (hvar d hd ?_) hv
      rw [hv]
      exact Option.some_ne_none v
    · exact hw c (List.mem_of_mem_drop h)
theorem se_nz_g {g : tm_G} {R : Nat → List Nat} {S : List Nat} (hG : tm_GS g) (hR : tm_RU g R) (hV : se_RV g R) (n : Nat) : ∀ w w', tm_P g S w → tm_FC R w → se_gr w → tm_nz g R n w = some w' → se_gr w' := by
  induction n with
  | zero =>
    intro w w' hP hF hw h
    cases hx : tm_rx w w.length with
    | none =>
      rw [tm_nz_no hx] at h
      rw [← Option.some.inj h]
      exact hw
    | some i =>
      rw [tm_nz_0 hx] at h
      cases h
  | succ n ih =>
    intro w w' hP hF hw h
    cases hx : tm_rx w w.length with
    | none =>
      rw [tm_nz_no hx] at h
      rw [← Option.some.inj h]
      exact hw
    | some i =>
      rw [tm_nz_s hx] at h
      have hrd := (tm_rx_lt _ _ hx).2
      obtain ⟨r, _, _, _, h1, h2⟩ := tm_st_ok hG hR hP hF hrd
      by_cases h3 : (tm_st g R w i).length ≤ 48
      · rw [if_pos h3] at h
        exact ih _ _ h1 h2 (se_st_g hG hR hV hP hF hrd hw) h
      · rw [if_neg h3] at h
        cases h
theorem se_N_g {g : tm_G} {R : Nat → List Nat} {S : List Nat} (hG : tm_GS g) (hR : tm_RU g R) (hV : se_RV g R) {w w' : List Nat} (hP : tm_P g S w) (hF : tm_FC R w) (hw : se_gr w) (h : tm_N g R w = some w') : se_gr w' := by
  unfold tm_N at h
  by_cases hl : w.length ≤ 48
  · rw [if_pos hl] at h
    exact se_nz_g hG hR hV 128 w w' hP hF hw h
  · rw [if_neg hl] at h
    cases h
theorem se_gk_g {val : Nat → Nat} {el : Nat → Nat → Nat} (w : List Nat) : se_gr (tm_gk val el 16 w) := by
  intro c hc
  obtain ⟨d, _, hcd⟩ := List.mem_flatMap.mp hc
  cases hv : tm_vn d with
  | none =>
    rw [tm_g1_n hv] at hcd
    rw [List.mem_singleton.mp hcd]
    exact hv
  | some v =>
    rw [tm_g1_v hv (tm_vn_ch hv).2] at hcd
    rcases tm_vl_mem hcd with e | e | e | e <;> rw [e] <;> decide
theorem se_gk {n : Nat} {A : Nat → List Nat} {Z : Nat → Nat} (hV : tm_V (tm_sg n A Z)) {val : Nat → Nat} {el : Nat → Nat → Nat} (rho : Nat → Nat) (w : List Nat) : se_v (tm_sg n A Z) rho (tm_gk val el 16 w) = se_v (tm_sg n A Z) (fun v => tm_at (se_v (tm_sg n A Z) rho (tm_vl val el v)) 0) w := by
  unfold tm_gk
  apply se_fm hV
  intro c _
  cases hv : tm_vn c with
  | none => exact Or.inl ⟨tm_g1_n hv, fun v z => nomatch z⟩
  | some v =>
    have hP := tm_vl_P (n := n) (A := A) (Z := Z) val el v
    refine Or.inr ⟨v, if v < 8 then 0 else 1, rfl, ?_, ?_⟩
    · rw [tm_g1_v hv (tm_vn_ch hv).2]
      exact hP
    · rw [tm_g1_v hv (tm_vn_ch hv).2]
      exact se_v_one rho hP
/-- two texts mean the same -/
def sd_V (g : tm_G) (u w : List Nat) : Prop := ∀ rho, se_v g rho u = se_v g rho w
theorem sd_eval {n : Nat} {A : Nat → List Nat} {Z : Nat → Nat} {R : Nat → List Nat} {l r x y : List Nat} {s : Nat} {val : Nat → Nat} {el : Nat → Nat → Nat} (hS : tm_SG n A Z) (hR : tm_RU (tm_sg n A Z) R) (hV : se_RV (tm_sg n A Z) R) (w1 : tm_P (tm_sg n A Z) [s] l) (w2 : tm_P (tm_sg n A Z) [s] r) (f1 : tm_FC R l) (f2 : tm_FC R r) (hE : sd_V (tm_sg n A Z) l r)
    (hx : tm_N (tm_sg n A Z) R (tm_gk val el 16 l) = some x) (hy : tm_N (tm_sg n A Z) R (tm_gk val el 16 r) = some y) : x = y := by
  have hG := tm_sg_GS hS
  have hFC : ∀ w, tm_FC R w → tm_FC R (tm_gk val el 16 w) := by
    intro w hw c hc hf
    rcases tm_gk_mem w hc with h | h
    · exact hw c h hf
    · omega
  have p1 := tm_gk_P (val := val) (el := el) (k := 16) _ _ w1
  have p2 := tm_gk_P (val := val) (el := el) (k := 16) _ _ w2
  obtain ⟨vx, nx⟩ := se_N hG hR hV p1 (hFC _ f1) hx
  obtain ⟨vy, ny⟩ := se_N hG hR hV p2 (hFC _ f2) hy
  have gx := se_N_g hG hR hV p1 (hFC _ f1) (se_gk_g l) hx
  have gy := se_N_g hG hR hV p2 (hFC _ f2) (se_gk_g r) hy
  obtain ⟨px, _, _⟩ := tm_N_ok hG hR (fun _ => ⟨p1, hFC _ f1⟩) hx
  obtain ⟨py, _, _⟩ := tm_N_ok hG hR (fun _ => ⟨p2, hFC _ f2⟩) hy
  have kx : ∀ c, c ∈ x → tm_kd c ≠ none := by
    intro c hc
    obtain ⟨i, hi, rfl⟩ := tm_mem_at hc
    exact se_cons_i hS px gx nx _ i (Nat.le_refl _) hi
  have ky : ∀ c, c ∈ y → tm_kd c ≠ none := by
    intro c hc
    obtain ⟨i, hi, rfl⟩ := tm_mem_at hc
    exact se_cons_i hS py gy ny _ i (Nat.le_refl _) hi
  refine se_uniq (rho := fun _ => 0) x [s] y kx ky px py ?_
  rw [vx, vy, se_gk hG.1, se_gk hG.1]
  exact hE _
/-! goals -/
def sd_G (g : tm_G) (m : Nat → List Nat) (s : Nat) : Prop := ∀ rho, se_v g rho (m (s + 2)) = se_v g rho (m (s + 3)) → se_v g rho (m s) = se_v g rho (m (s + 1))
theorem sd_step {g : tm_G} {m m' : Nat → List Nat} {ng ng' : Nat} {F : Prop} (h1 : ng - 1 ≤ ng') (hf : ∀ s, 49 ≤ s → s < 49 + 4 * (ng - 1) → m' s = m s) (hs : (∀ j, ng - 1 ≤ j → j < ng' → sd_G g m' (49 + 4 * j)) → sd_G g m (49 + 4 * (ng - 1))) (h : (∀ j, j < ng → sd_G g m (49 + 4 * j)) → F) : (∀ j, j < ng' → sd_G g m' (49 + 4 * j)) → F := by
  intro h'
  apply h
  intro j hj
  by_cases e : j = ng - 1
  · rw [e]
    exact hs (fun i _ hi => h' i hi)
  · intro rho hh
    have k := h' j (by omega) rho
    rw [hf (49 + 4 * j) (by omega) (by omega), hf (49 + 4 * j + 1) (by omega) (by omega), hf (49 + 4 * j + 2) (by omega) (by omega), hf (49 + 4 * j + 3) (by omega) (by omega)] at k
    exact k hh
theorem sd_set {g : tm_G} {m m' : Nat → List Nat} {s0 : Nat} (e2 : m' (s0 + 2) = m (s0 + 2)) (e3 : m' (s0 + 3) = m (s0 + 3)) (h0 : ∀ rho, se_v g rho (m (s0 + 2)) = se_v g rho (m (s0 + 3)) → se_v g rho (m' s0) = se_v g rho (m s0)) (h1 : ∀ rho, se_v g rho (m (s0 + 2)) = se_v g rho (m (s0 + 3)) → se_v g rho (m' (s0 + 1)) = se_v g rho (m (s0 + 1))) (h : sd_G g m' s0) : sd_G g m s0 := by
  intro rho hh
  have k := h rho (by rw [e2, e3]; exact hh)
  rw [h0 rho hh, h1 rho hh] at k
  exact k
theorem sd_same {g : tm_G} {m : Nat → List Nat} {s0 : Nat} (h : m s0 = m (s0 + 1)) : sd_G g m s0 := by
  intro rho _
  rw [h]
/-! one variable's value changed -/
def se_up (rho : Nat → Nat) (v x : Nat) : Nat → Nat := fun u => if u = v then x else rho u
theorem se_up_s {rho : Nat → Nat} {v x : Nat} : se_up rho v x v = x := if_pos rfl
theorem se_up_n {rho : Nat → Nat} {v x u : Nat} (h : u ≠ v) : se_up rho v x u = rho u := if_neg h
theorem se_up_e {rho : Nat → Nat} {v x : Nat} (h : rho v = x) : se_up rho v x = rho := by
  funext u
  by_cases e : u = v
  · rw [e, se_up_s, h]
  · rw [se_up_n e]
theorem se_up_ext {g : tm_G} {rho : Nat → Nat} {v x : Nat} (w : List Nat) (h : ¬ tm_vc v ∈ w) : se_v g (se_up rho v x) w = se_v g rho w := by
  apply se_v_ext
  intro c hc u hu
  apply se_up_n
  intro e
  apply h
  rw [← e, ← (tm_vn_ch hu).1]
  exact hc
theorem sd_gen {g : tm_G} {m m' : Nat → List Nat} {s0 v sv sg : Nat} {t : List Nat} (hv : tm_V g) (hv16 : v < 16) (ht : tm_P g [sv] t) (hx : tm_P g [sv] [tm_vc v]) (w1 : tm_P g [sg] (m s0)) (w2 : tm_P g [sg] (m (s0 + 1))) (hfr : ¬ fr_p m s0 v)
    (e0 : m' s0 = (tm_R g false (m s0) t [tm_vc v] 0).2) (e1 : m' (s0 + 1) = (tm_R g false (m (s0 + 1)) t [tm_vc v] 0).2) (e2 : m' (s0 + 2) = m (s0 + 2)) (e3 : m' (s0 + 3) = m (s0 + 3)) (h : sd_G g m' s0) : sd_G g m s0 := by
  intro rho hh
  have n0 : ¬ tm_vc v ∈ m s0 := fun z => hfr (Or.inl z)
  have n1 : ¬ tm_vc v ∈ m (s0 + 1) := fun z => hfr (Or.inr (Or.inl z))
  have n2 : ¬ tm_vc v ∈ m (s0 + 2) := fun z => hfr (Or.inr (Or.inr (Or.inl z)))
  have n3 : ¬ tm_vc v ∈ m (s0 + 3) := fun z => hfr (Or.inr (Or.inr (Or.inr z)))
  have k := h (se_up rho v (tm_at (se_v g rho t) 0)) (by rw [e2, e3, se_up_ext _ n2, se_up_ext _ n3]; exact hh)
  have hH : ∀ w : List Nat, ¬ tm_vc v ∈ w → (∀ c, c ∈ t → c ∈ w) → se_v g (se_up rho v (tm_at (se_v g rho t) 0)) [tm_vc v] = se_v g (se_up rho v (tm_at (se_v g rho t) 0)) t := by
    intro w hw hs
    rw [se_up_ext t (fun z => hw (hs _ z)), se_v_cons, se_v_nil, se_op_var hv _ (tm_vn_vc hv16), se_up_s]
    exact (se_v_one rho ht).symm
  rw [e0, e1, se_Rf hv ht hx w1 (hH _ n0), se_Rf hv ht hx w2 (hH _ n1), se_up_ext _ n0, se_up_ext _ n1] at k
  exact k
theorem sd_sub {g : tm_G} (hV : tm_V g) {v s : Nat} (hv : v < 16) {to : List Nat} (hto : tm_P g [s] to) (rho : Nat → Nat) (w : List Nat) : se_v g rho (tm_R g false w [tm_vc v] to 0).2 = se_v g (se_up rho v (tm_at (se_v g rho to) 0)) w := by
  rw [tm_R_one (tm_V_ar hV (tm_vn_vc hv)) w.length 0 (Nat.sub_le _ _), List.drop_zero]
  apply se_fm hV
  intro c _
  by_cases e : c = tm_vc v
  · refine Or.inr ⟨v, s, ?_, ?_, ?_⟩
    · rw [e]
      exact tm_vn_vc hv
    · rw [if_pos e]
      exact hto
    · rw [if_pos e, se_up_s]
      exact se_v_one rho hto
  · refine Or.inl ⟨if_neg e, fun u hu => (se_up_n (fun z => e ?_)).symm⟩
    rw [← z]
    exact (tm_vn_ch hu).1
theorem sd_indN {g : tm_G} {l r : List Nat} {v : Nat} (base : ∀ rho, se_v g (se_up rho v 0) l = se_v g (se_up rho v 0) r) (step : ∀ rho, se_v g rho l = se_v g rho r → se_v g (se_up rho v (rho v + 1)) l = se_v g (se_up rho v (rho v + 1)) r) (k : Nat) : ∀ rho, rho v = k → se_v g rho l = se_v g rho r := by
  induction k with
  | zero =>
    intro rho h
    have := base rho
    rw [se_up_e h] at this
    exact this
  | succ k ih =>
    intro rho h
    have h1 := step _ (ih (se_up rho v k) se_up_s)
    rw [se_up_s] at h1
    have e : se_up (se_up rho v k) v (k + 1) = rho := by
      funext u
      by_cases q : u = v
      · rw [q, se_up_s, h]
      · rw [se_up_n q, se_up_n q]
    rw [e] at h1
    exact h1
theorem sd_indL {g : tm_G} {l r : List Nat} {v a : Nat} (hne : a ≠ v) (hl : ¬ tm_vc a ∈ l) (hr : ¬ tm_vc a ∈ r) (base : ∀ rho, se_v g (se_up rho v 0) l = se_v g (se_up rho v 0) r) (step : ∀ rho, se_v g rho l = se_v g rho r → se_v g (se_up rho v (se_co (rho a) (rho v))) l = se_v g (se_up rho v (se_co (rho a) (rho v))) r) (d : Nat) : ∀ rho, rho v ≤ d → se_v g rho l = se_v g rho r := by
  induction d with
  | zero =>
    intro rho h
    have := base rho
    rw [se_up_e (show rho v = 0 by omega)] at this
    exact this
  | succ d ih =>
    intro rho h
    by_cases h0 : rho v = 0
    · have := base rho
      rw [se_up_e h0] at this
      exact this
    · obtain ⟨x, t, e⟩ := se_co_sur (rho v) (rho v) (Nat.le_refl _) (by omega)
      have hlt := se_co_lt x t
      have ev : se_up (se_up rho v t) a x v = t := by rw [se_up_n (fun z => hne z.symm), se_up_s]
      have h1 := step _ (ih (se_up (se_up rho v t) a x) (by rw [ev]; omega))
      rw [ev, se_up_s, e] at h1
      have key : ∀ w : List Nat, ¬ tm_vc a ∈ w → se_v g (se_up (se_up (se_up rho v t) a x) v (rho v)) w = se_v g rho w := by
        intro w hw
        apply se_v_ext
        intro c hc u hu
        by_cases q : u = v
        · rw [q, se_up_s]
        · rw [se_up_n q, se_up_n ?_, se_up_n q]
          intro z
          apply hw
          rw [← z, ← (tm_vn_ch hu).1]
          exact hc
      rw [key l hl, key r hr] at h1
      exact h1
theorem sd_ba {n : Nat} {A : Nat → List Nat} {Z : Nat → Nat} {rho : Nat → Nat} (v : Nat) : tm_at (se_v (tm_sg n A Z) rho (tm_ba v)) 0 = 0 := by
  unfold tm_ba
  split
  · rfl
  · rfl
theorem sd_toN {n : Nat} {A : Nat → List Nat} {Z : Nat → Nat} (hV : tm_V (tm_sg n A Z)) {rho : Nat → Nat} {v hh : Nat} (h : v < 8) : tm_at (se_v (tm_sg n A Z) rho (tm_to v hh)) 0 = rho v + 1 := by
  unfold tm_to
  rw [if_pos h, se_v_cons, se_v_cons, se_v_nil, se_op_var hV _ (tm_vn_vc (by omega)), se_o83]
  rfl
theorem sd_toL {n : Nat} {A : Nat → List Nat} {Z : Nat → Nat} (hV : tm_V (tm_sg n A Z)) {rho : Nat → Nat} {v hh : Nat} (h : ¬ v < 8) (hv : v < 16) (h8 : hh < 8) : tm_at (se_v (tm_sg n A Z) rho (tm_to v hh)) 0 = se_co (rho hh) (rho v) := by
  unfold tm_to
  rw [if_neg h, se_v_cons, se_v_cons, se_v_cons, se_v_nil, se_op_var hV _ (tm_vn_vc hv), se_op_var hV _ (tm_vn_vc (by omega)), se_o67]
  rfl
/-! induct -/
theorem ri_Pv {n : Nat} {A : Nat → List Nat} {Z : Nat → Nat} {v : Nat} (hv : v < 16) : tm_P (tm_sg n A Z) [if v < 8 then 0 else 1] [tm_vc v] := ⟨[], _, [], tm_sg_V (tm_vn_vc hv), rfl, rfl⟩
theorem ri_to {n : Nat} {A : Nat → List Nat} {Z : Nat → Nat} {v hh : Nat} (hv : v < 16) (hhh : 8 ≤ v → hh < 8) : tm_P (tm_sg n A Z) [if v < 8 then 0 else 1] (tm_to v hh) := by
  unfold tm_to
  by_cases h : v < 8
  · rw [if_pos h, if_pos h]
    have := ri_Pv (n := n) (A := A) (Z := Z) hv
    rw [if_pos h] at this
    exact ⟨[0], 0, [], rfl, rfl, this⟩
  · rw [if_neg h, if_neg h]
    have h1 := ri_Pv (n := n) (A := A) (Z := Z) hv
    have h8 := hhh (by omega)
    have h2 := ri_Pv (n := n) (A := A) (Z := Z) (v := hh) (by omega)
    rw [if_neg h] at h1
    rw [if_pos h8] at h2
    exact ⟨[0, 1], 1, [], rfl, rfl, tm_P_app h1 _ [0] h2⟩
theorem ri_ba {n : Nat} {A : Nat → List Nat} {Z : Nat → Nat} {v : Nat} : tm_P (tm_sg n A Z) [if v < 8 then 0 else 1] (tm_ba v) := by
  unfold tm_ba
  by_cases h : v < 8
  · rw [if_pos h, if_pos h]
    exact ⟨[], 0, [], rfl, rfl, rfl⟩
  · rw [if_neg h, if_neg h]
    exact ⟨[], 1, [], rfl, rfl, rfl⟩
theorem sd_ind {n : Nat} {A : Nat → List Nat} {Z : Nat → Nat} {m m' : Nat → List Nat} {s0 v hh : Nat} (hS : tm_SG n A Z) (hv : v < 16) (hfr : 8 ≤ v → hh < 8 ∧ ¬ fr_p m s0 hh)
    (e0 : m' s0 = (tm_R (tm_sg n A Z) false (m s0) [tm_vc v] (tm_to v hh) 0).2) (e1 : m' (s0 + 1) = (tm_R (tm_sg n A Z) false (m (s0 + 1)) [tm_vc v] (tm_to v hh) 0).2) (e2 : m' (s0 + 2) = m s0) (e3 : m' (s0 + 3) = m (s0 + 1)) (e4 : m' (s0 + 4) = (tm_R (tm_sg n A Z) false (m s0) [tm_vc v] (tm_ba v) 0).2) (e5 : m' (s0 + 5) = (tm_R (tm_sg n A Z) false (m (s0 + 1)) [tm_vc v] (tm_ba v) 0).2) (e6 : m' (s0 + 6) = []) (e7 : m' (s0 + 7) = [])
    (hs : sd_G (tm_sg n A Z) m' s0) (hb : sd_G (tm_sg n A Z) m' (s0 + 4)) : sd_G (tm_sg n A Z) m s0 := by
  have hV := (tm_sg_GS hS).1
  have hPt := ri_to (n := n) (A := A) (Z := Z) (hh := hh) hv (fun z => (hfr z).1)
  have hPb := ri_ba (n := n) (A := A) (Z := Z) (v := v)
  have e5' : m' (s0 + 4 + 1) = (tm_R (tm_sg n A Z) false (m (s0 + 1)) [tm_vc v] (tm_ba v) 0).2 := e5
  have e6' : m' (s0 + 4 + 2) = [] := e6
  have e7' : m' (s0 + 4 + 3) = [] := e7
  have base : ∀ rho, se_v (tm_sg n A Z) (se_up rho v 0) (m s0) = se_v (tm_sg n A Z) (se_up rho v 0) (m (s0 + 1)) := by
    intro rho
    have k := hb rho (by rw [e6', e7'])
    rw [e4, e5', sd_sub hV hv hPb, sd_sub hV hv hPb, sd_ba] at k
    exact k
  have step : ∀ rho, se_v (tm_sg n A Z) rho (m s0) = se_v (tm_sg n A Z) rho (m (s0 + 1)) → se_v (tm_sg n A Z) (se_up rho v (tm_at (se_v (tm_sg n A Z) rho (tm_to v hh)) 0)) (m s0) = se_v (tm_sg n A Z) (se_up rho v (tm_at (se_v (tm_sg n A Z) rho (tm_to v hh)) 0)) (m (s0 + 1)) := by
    intro rho h
    have k := hs rho (by rw [e2, e3]; exact h)
    rw [e0, e1, sd_sub hV hv hPt, sd_sub hV hv hPt] at k
    exact k
  intro rho _
  by_cases h8 : v < 8
  · refine sd_indN base (fun rh h => ?_) (rho v) rho rfl
    have k := step rh h
    rw [sd_toN hV h8] at k
    exact k
  · obtain ⟨a8, afr⟩ := hfr (by omega)
    refine sd_indL (a := hh) (by omega) (fun z => afr (Or.inl z)) (fun z => afr (Or.inr (Or.inl z))) base (fun rh h => ?_) (rho v) rho (Nat.le_refl _)
    have k := step rh h
    rw [sd_toL hV h8 hv a8] at k
    exact k
end
section
/-! 23: what every state that the law makes keeps -/
def li_A (q ng : Nat) (act : Int32) (pr : Nat → Bool) : Prop := (act = -1 ∧ ng = 0) ∨ (∃ k, k < q ∧ act = nI k ∧ 1 ≤ ng ∧ pr k = false)
def li_P (q : Nat) (pr : Nat → Bool) (pv : Nat → Int32) : Prop := ∀ k, k < 8 → (pv k = if pr k = true then 1 else 0) ∧ (q ≤ k → pr k = false)
def li_V (g : tm_G) (pr : Nat → Bool) (m : Nat → List Nat) : Prop := ∀ k, k < 8 → pr k = true → sd_V g (m (1 + 2 * k)) (m (1 + 2 * k + 1))
def li_F (g : tm_G) (ng : Nat) (act : Int32) (m : Nat → List Nat) : Prop := ∀ k, k < 8 → act = nI k → (∀ j, j < ng → sd_G g m (49 + 4 * j)) → sd_V g (m (1 + 2 * k)) (m (1 + 2 * k + 1))
def li_I (n q ng : Nat) (A : Nat → List Nat) (Z : Nat → Nat) (hy pr : Nat → Bool) (val : Nat → Nat) (e2 : Nat → Nat → Nat) (act : Int32) (m : Nat → List Nat) (T L ay gs so pv vl el : Nat → Int32) : Prop :=
  mm_M 49 86 T L m ∧ iv_W n A Z q ng hy m ∧ li_A q ng act pr ∧ sg_X (tm_sg n A Z) ay gs so ∧ li_P q pr pv ∧ ev_X val e2 vl el ∧ se_RV (tm_sg n A Z) (iv_R m) ∧ li_V (tm_sg n A Z) pr m ∧ li_F (tm_sg n A Z) ng act m
def li_S (n : Nat) (A : Nat → List Nat) (Z : Nat → Nat) (M : Nat → Prop) (C : (Nat → List Nat) → Prop) (u : St1) : Prop := ∃ (q ng : Nat) (hy pr : Nat → Bool) (val : Nat → Nat) (e2 : Nat → Nat → Nat) (act : Int32) (m : Nat → List Nat) (T L ay gs so E B pv vl el : Nat → Int32), u = (nI n, nI q, act, nI ng, T, L, ay, gs, so, E, B, pv, vl, el) ∧ (∀ k, k < 8 → M k → pr k = true) ∧ C m ∧ li_I n q ng A Z hy pr val e2 act m T L ay gs so pv vl el
abbrev li_T (n : Nat) (A : Nat → List Nat) (Z : Nat → Nat) (M : Nat → Prop) (u : St1) : Prop := li_S n A Z M (fun _ => True) u
theorem li_imp {n : Nat} {A : Nat → List Nat} {Z : Nat → Nat} {M : Nat → Prop} {C D : (Nat → List Nat) → Prop} {u : St1} (h : li_S n A Z M C u) (hi : ∀ m, C m → D m) : li_S n A Z M D u := by
  obtain ⟨q, ng, hy, pr, val, e2, act, m, T, L, ay, gs, so, E, B, pv, vl, el, e, hpr, hC, hI⟩ := h
  exact ⟨q, ng, hy, pr, val, e2, act, m, T, L, ay, gs, so, E, B, pv, vl, el, e, hpr, hi m hC, hI⟩
theorem li_RVx {g : tm_G} {R R' : Nat → List Nat} (h : ∀ i, i < 32 → R' i = R i) (hR : se_RV g R) : se_RV g R' := by
  intro f k hf hk hne
  rw [h _ (by omega)] at hne
  rw [h (4 * f + 2 * k) (by omega), h (4 * f + 2 * k + 1) (by omega)]
  exact hR f k hf hk hne
theorem li_Vx {g : tm_G} {pr : Nat → Bool} {m m' : Nat → List Nat} (h : ∀ s, 1 ≤ s → s < 17 → m' s = m s) (hV : li_V g pr m) : li_V g pr m' := by
  intro k hk hp
  rw [h (1 + 2 * k) (by omega) (by omega), h (1 + 2 * k + 1) (by omega) (by omega)]
  exact hV k hk hp
theorem li_Fx {g : tm_G} {ng ng' : Nat} {act : Int32} {m m' : Nat → List Nat} (h : ∀ s, 1 ≤ s → s < 17 → m' s = m s) (hi : (∀ j, j < ng' → sd_G g m' (49 + 4 * j)) → ∀ j, j < ng → sd_G g m (49 + 4 * j)) (hF : li_F g ng act m) : li_F g ng' act m' := by
  intro k hk ha hj
  rw [h (1 + 2 * k) (by omega) (by omega), h (1 + 2 * k + 1) (by omega) (by omega)]
  exact hF k hk ha (hi hj)
theorem li_Gx {g : tm_G} {m m' : Nat → List Nat} {s : Nat} (h0 : m' s = m s) (h1 : m' (s + 1) = m (s + 1)) (h2 : m' (s + 2) = m (s + 2)) (h3 : m' (s + 3) = m (s + 3)) (h : sd_G g m' s) : sd_G g m s := by
  intro rho hh
  have k := h rho
  rw [h0, h1, h2, h3] at k
  exact k hh
section LI
variable {n q ng kk : Nat} {A : Nat → List Nat} {Z : Nat → Nat} {M : Nat → Prop} {C : (Nat → List Nat) → Prop} {hy pr : Nat → Bool} {val : Nat → Nat} {e2 : Nat → Nat → Nat} {act : Int32} {m m2 : Nat → List Nat} {T L ay gs so E B pv vl el T2 L2 E2 B2 : Nat → Int32}
theorem li_mkC (hpr : ∀ k, k < 8 → M k → pr k = true) (hC : C m) (h : li_I n q ng A Z hy pr val e2 act m T L ay gs so pv vl el) : li_S n A Z M C (nI n, nI q, act, nI ng, T, L, ay, gs, so, E, B, pv, vl, el) :=
  ⟨q, ng, hy, pr, val, e2, act, m, T, L, ay, gs, so, E, B, pv, vl, el, rfl, hpr, hC, h⟩
theorem li_mk (hpr : ∀ k, k < 8 → M k → pr k = true) (h : li_I n q ng A Z hy pr val e2 act m T L ay gs so pv vl el) : li_T n A Z M (nI n, nI q, act, nI ng, T, L, ay, gs, so, E, B, pv, vl, el) := li_mkC hpr trivial h
theorem li_keep (h : li_I n q ng A Z hy pr val e2 act m T L ay gs so pv vl el) (hM : mm_M 49 86 T2 L2 m2) (f : ∀ s, 1 ≤ s → s < 81 → m2 s = m s) (hl : (m2 0).length ≤ 48) : li_I n q ng A Z hy pr val e2 act m2 T2 L2 ay gs so pv vl el := by
  obtain ⟨_, hW, hA, hg, hP, hv, hR, hV, hF⟩ := h
  have hg8 : ng ≤ 8 := hW.2.2.1
  refine ⟨hM, iv_W_ext f hl hW, hA, hg, hP, hv, li_RVx (fun i hi => f (17 + i) (by omega) (by omega)) hR, li_Vx (fun s a b => f s a (by omega)) hV, li_Fx (fun s a b => f s a (by omega)) (fun hj j h => ?_) hF⟩
  exact li_Gx (f _ (by omega) (by omega)) (f _ (by omega) (by omega)) (f _ (by omega) (by omega)) (f _ (by omega) (by omega)) (hj j h)
theorem li_keep0 (h : li_I n q ng A Z hy pr val e2 act m T L ay gs so pv vl el) (hM : mm_M 49 86 T2 L2 m2) (f : ∀ s, s < 81 → m2 s = m s) : li_I n q ng A Z hy pr val e2 act m2 T2 L2 ay gs so pv vl el :=
  li_keep h hM (fun s _ b => f s b) (by rw [f 0 (by omega)]; exact h.2.1.2.2.2.1)
theorem li_goal (h : li_I n q ng A Z hy pr val e2 act m T L ay gs so pv vl el) (hg0 : 1 ≤ ng) (hM : mm_M 49 86 T2 L2 m2) (f : ∀ s, 1 ≤ s → s < 81 → s ≠ 49 + 4 * (ng - 1) → s ≠ 49 + 4 * (ng - 1) + 1 → m2 s = m s) (hl : (m2 0).length ≤ 48) (hE : iv_E (tm_sg n A Z) (iv_R m) (m2 (49 + 4 * (ng - 1))) (m2 (49 + 4 * (ng - 1) + 1))) (hs : sd_G (tm_sg n A Z) m2 (49 + 4 * (ng - 1)) → sd_G (tm_sg n A Z) m (49 + 4 * (ng - 1))) : li_I n q ng A Z hy pr val e2 act m2 T2 L2 ay gs so pv vl el := by
  obtain ⟨_, hW, hA, hg, hP, hv, hR, hV, hF⟩ := h
  have hg8 : ng ≤ 8 := hW.2.2.1
  have hWg := hW.2.2.2.2.2.2
  refine ⟨hM, iv_W_goals (fun s a b => f s a (by omega) (by omega) (by omega)) hl hg8 hW (fun j hj => ?_), hA, hg, hP, hv, li_RVx (fun i hi => f (17 + i) (by omega) (by omega) (by omega) (by omega)) hR, li_Vx (fun s a b => f s a (by omega) (by omega) (by omega)) hV, li_Fx (fun s a b => f s a (by omega) (by omega) (by omega)) (fun hj => ?_) hF⟩
  · obtain ⟨a1, a2, a3⟩ := hWg j hj
    rw [f (49 + 4 * j + 2) (by omega) (by omega) (by omega) (by omega), f (49 + 4 * j + 3) (by omega) (by omega) (by omega) (by omega)]
    refine ⟨?_, a2, a3⟩
    by_cases q9 : j = ng - 1
    · rw [q9]
      exact hE
    · rw [f (49 + 4 * j) (by omega) (by omega) (by omega) (by omega), f (49 + 4 * j + 1) (by omega) (by omega) (by omega) (by omega)]
      exact a1
  · exact sd_step (ng := ng) (ng' := ng) (by omega) (fun s a b => f s (by omega) (by omega) (by omega) (by omega)) (fun h => hs (h (ng - 1) (Nat.le_refl _) (by omega))) id hj
theorem li_pop (h : li_I n q ng A Z hy pr val e2 act m T L ay gs so pv vl el) (hg1 : 1 < ng) (hs : sd_G (tm_sg n A Z) m (49 + 4 * (ng - 1))) : li_I n q (ng - 1) A Z hy pr val e2 act m T L ay gs so pv vl el := by
  obtain ⟨hM, ⟨w1, w2, w3, w4, w5, w6, w7⟩, hA, hg, hP, hv, hR, hV, hF⟩ := h
  refine ⟨hM, ⟨w1, w2, by omega, w4, w5, w6, fun j hj => w7 j (by omega)⟩, ?_, hg, hP, hv, hR, hV, li_Fx (fun _ _ _ => rfl) (fun hj => ?_) hF⟩
  · rcases hA with ⟨_, z⟩ | ⟨k, k1, k2, k3, k4⟩
    · omega
    · exact Or.inr ⟨k, k1, k2, by omega, k4⟩
  · exact sd_step (ng := ng) (ng' := ng - 1) (Nat.le_refl _) (fun _ _ _ => rfl) (fun _ => hs) id hj
theorem li_done (h : li_I n q 1 A Z hy pr val e2 (nI kk) m T L ay gs so pv vl el) (hk : kk < q) (hs : sd_G (tm_sg n A Z) m 49) : li_I n q 0 A Z hy (fun j => if j = kk then true else pr j) val e2 (-1) m T L ay gs so (upd pv kk 1) vl el := by
  obtain ⟨hM, ⟨w1, w2, w3, w4, w5, w6, w7⟩, hA, hg, hP, hv, hR, hV, hF⟩ := h
  refine ⟨hM, ⟨w1, w2, by omega, w4, w5, w6, fun j hj => absurd hj (Nat.not_lt_zero _)⟩, Or.inl ⟨rfl, rfl⟩, hg, ?_, hv, hR, ?_, ?_⟩
  · intro j hj
    obtain ⟨p1, p2⟩ := hP j hj
    by_cases e : j = kk
    · subst e
      rw [mm_us]
      have hpr : (fun i => if i = j then true else pr i) j = true := if_pos rfl
      exact ⟨(if_pos hpr).symm, fun z => by omega⟩
    · rw [mm_un e]
      have hpr : (fun i => if i = kk then true else pr i) j = pr j := if_neg e
      refine ⟨?_, fun z => hpr.trans (p2 z)⟩
      rw [p1]
      by_cases hpj : pr j = true
      · rw [if_pos hpj]
        exact (if_pos (hpr.trans hpj)).symm
      · rw [if_neg hpj]
        exact (if_neg (fun z => hpj (hpr.symm.trans z))).symm
  · intro j hj hp
    by_cases e : j = kk
    · subst e
      refine hF j hj rfl (fun i hi => ?_)
      rw [show i = 0 by omega]
      exact hs
    · exact hV j hj ((show (fun i => if i = kk then true else pr i) j = pr j from if_neg e).symm.trans hp)
  · intro j hj z
    exact absurd z.symm (xi_neg (by omega))
theorem li_act (h : li_I n q ng A Z hy pr val e2 act m T L ay gs so pv vl el) : (act = -1 ∧ ng = 0) ∨ (∃ k, k < q ∧ k < 8 ∧ act = nI k ∧ 1 ≤ ng ∧ ng ≤ 8 ∧ pr k = false) := by
  have hq := h.2.1.2.1
  have hg := h.2.1.2.2.1
  rcases h.2.2.1 with z | ⟨k, k1, k2, k3, k4⟩
  · exact Or.inl z
  · exact Or.inr ⟨k, k1, by omega, k2, k3, hg, k4⟩
theorem li_fin {post : Int32 → St1 → Prop} {l r x y : List Nat} {sv : Nat} (hp : ∀ r u, li_T n A Z M u → post r u) (hpr : ∀ k, k < 8 → M k → pr k = true) (hI0 : li_I n q ng A Z hy pr val e2 (nI kk) m T L ay gs so pv vl el) (k1 : kk < q) (k3 : 1 ≤ ng) (wl : tm_P (tm_sg n A Z) [sv] l ∧ tm_FC (iv_R m) l) (wr : tm_P (tm_sg n A Z) [sv] r ∧ tm_FC (iv_R m) r) (hx : tm_N (tm_sg n A Z) (iv_R m) l = some x) (hyy : tm_N (tm_sg n A Z) (iv_R m) r = some y)
    (ul : ∀ rho, se_v (tm_sg n A Z) rho (m (49 + 4 * (ng - 1) + 2)) = se_v (tm_sg n A Z) rho (m (49 + 4 * (ng - 1) + 3)) → se_v (tm_sg n A Z) rho l = se_v (tm_sg n A Z) rho (m (49 + 4 * (ng - 1)))) (ur : ∀ rho, se_v (tm_sg n A Z) rho (m (49 + 4 * (ng - 1) + 2)) = se_v (tm_sg n A Z) rho (m (49 + 4 * (ng - 1) + 3)) → se_v (tm_sg n A Z) rho r = se_v (tm_sg n A Z) rho (m (49 + 4 * (ng - 1) + 1)))
    (hM2 : mm_M 49 86 T2 L2 m2) (a1 : m2 (49 + 4 * (ng - 1)) = x) (a2 : m2 (49 + 4 * (ng - 1) + 1) = y) (a3 : ∀ s, s < 81 → s ≠ 49 + 4 * (ng - 1) → s ≠ 49 + 4 * (ng - 1) + 1 → m2 s = m s) :
    (x ≠ y → post (nI ng) (nI n, nI q, nI kk, nI ng, T2, L2, ay, gs, so, E2, B2, pv, vl, el)) ∧ (x = y → ng = 1 → post 0 (nI n, nI q, -1, 0, T2, L2, ay, gs, so, E2, B2, upd pv kk 1, vl, el)) ∧ (x = y → 1 < ng → post (nI (ng - 1)) (nI n, nI q, nI kk, nI (ng - 1), T2, L2, ay, gs, so, E2, B2, pv, vl, el)) := by
  have hS := hI0.2.1.1
  have hg8 := hI0.2.1.2.2.1
  have hRU := hI0.2.1.2.2.2.2.2.1.1
  have h48 := hI0.2.1.2.2.2.1
  have hRV := hI0.2.2.2.2.2.2.1
  obtain ⟨x1, x2, x3⟩ := tm_N_ok (tm_sg_GS hS) hRU (fun _ => wl) hx
  obtain ⟨y1, y2, y3⟩ := tm_N_ok (tm_sg_GS hS) hRU (fun _ => wr) hyy
  obtain ⟨ex, _⟩ := se_N (tm_sg_GS hS) hRU hRV wl.1 wl.2 hx
  obtain ⟨ey, _⟩ := se_N (tm_sg_GS hS) hRU hRV wr.1 wr.2 hyy
  have hG := li_goal hI0 k3 hM2 (fun s _ b c d => a3 s b c d) (by rw [a3 0 (by omega) (by omega) (by omega)]; exact h48) (by rw [a1, a2]; exact ⟨sv, x1, y1, x2, y2, x3, y3⟩)
    (sd_set (a3 _ (by omega) (by omega) (by omega)) (a3 _ (by omega) (by omega) (by omega)) (fun rho hh => by rw [a1, ex rho]; exact ul rho hh) (fun rho hh => by rw [a2, ey rho]; exact ur rho hh))
  have hsame : x = y → sd_G (tm_sg n A Z) m2 (49 + 4 * (ng - 1)) := fun z => sd_same (by rw [a1, a2, z])
  refine ⟨fun _ => hp _ _ (li_mk hpr hG), fun z z1 => ?_, fun z z1 => hp _ _ (li_mk hpr (li_pop hG z1 (hsame z)))⟩
  subst z1
  refine hp _ _ (li_mk (fun k hk hm => ?_) (li_done hG k1 (hsame z)))
  by_cases e : k = kk
  · exact if_pos e
  · exact (show (fun i => if i = kk then true else pr i) k = pr k from if_neg e).trans (hpr k hk hm)
end LI
end
section
/-! 24: the tactics keep it: simp, useHyp, useLemma -/
section MA
variable {n : Nat} {A : Nat → List Nat} {Z : Nat → Nat} {M : Nat → Prop} {u : St1} {post : Int32 → St1 → Prop}
theorem mw_simp (h : li_T n A Z M u) (hp : ∀ r u, li_T n A Z M u → post r u) : wpX_simp post u := by
  have h2 := h
  obtain ⟨q, ng, hy, pr, val, e2, act, m, T, L, ay, gs, so, E, B, pv, vl, el, rfl, hpr, hC, hI⟩ := h
  have hI0 := hI
  obtain ⟨hM, hW, hA, hg, hP, hv, hR, hV, hF⟩ := hI
  rcases li_act hI0 with ⟨rfl, rfl⟩ | ⟨kk, k1, k2, rfl, k3, k4, k5⟩
  · unfold wpX_simp
    dsimp only
    exact br_f (by decide) (hp _ _ h2)
  · obtain ⟨⟨sv, w1, w2, w3, w4, w5, w6⟩, hyt, hyf⟩ := hW.2.2.2.2.2.2 (ng - 1) (by omega)
    refine xp_simp k2 hW hg hM k3 (fun _ T1 L1 E1 B1 m1 hM1 f1 => hp _ _ (li_mk hpr (li_keep0 hI0 hM1 f1))) (fun x y T1 L1 E1 B1 m1 hx hyy hM1 a1 a2 a3 => ?_)
    exact li_fin hp hpr hI0 k1 k3 ⟨w1, w3⟩ ⟨w2, w4⟩ hx hyy (fun _ _ => rfl) (fun _ _ => rfl) hM1 a1 a2 a3
theorem mw_useHyp (h : li_T n A Z M u) (hp : ∀ r u, li_T n A Z M u → post r u) (v1 : Int32) : wpX_useHyp post u v1 := by
  have h2 := h
  obtain ⟨q, ng, hy, pr, val, e2, act, m, T, L, ay, gs, so, E, B, pv, vl, el, rfl, hpr, hC, hI⟩ := h
  have hI0 := hI
  obtain ⟨hM, hW, hA, hg, hP, hv, hR, hV, hF⟩ := hI
  rcases li_act hI0 with ⟨rfl, rfl⟩ | ⟨kk, k1, k2, rfl, k3, k4, k5⟩
  · unfold wpX_useHyp
    dsimp only
    exact br_f (by decide) (hp _ _ h2)
  · obtain ⟨⟨sv, w1, w2, w3, w4, w5, w6⟩, hyt, hyf⟩ := hW.2.2.2.2.2.2 (ng - 1) (by omega)
    have hVV := (tm_sg_GS hW.1).1
    have hmain : ∀ f p, (f = 49 + 4 * (ng - 1) + 2 ∧ p = 49 + 4 * (ng - 1) + 3 ∧ v1 = 0) ∨ (f = 49 + 4 * (ng - 1) + 3 ∧ p = 49 + 4 * (ng - 1) + 2 ∧ v1 = 1) → wX_useHyp_22 post v1 (nI n) (nI q) (nI kk) (nI ng) T L ay gs so E B pv vl el := by
      intro f p hfp
      refine xp_useHyp (f := f) (p := p) k2 hW hg hM k3 hfp (fun _ => hp _ _ h2) (fun _ _ T1 L1 E1 B1 m1 hM1 f1 => hp _ _ (li_mk hpr (li_keep0 hI0 hM1 f1))) (fun _ _ _ T1 L1 E1 B1 m1 hM1 f1 => hp _ _ (li_mk hpr (li_keep0 hI0 hM1 f1))) (fun hyv _ x y T1 L1 E1 B1 m1 hx hyy hM1 a1 a2 a3 => ?_)
      have hEf : ∃ sf, tm_P (tm_sg n A Z) [sf] (m f) ∧ tm_P (tm_sg n A Z) [sf] (m p) ∧ tm_FC (iv_R m) (m p) := by
        obtain ⟨sh, v1, v2, v3, v4, v5, v6⟩ := hyt hyv
        rcases hfp with ⟨rfl, rfl, _⟩ | ⟨rfl, rfl, _⟩
        · exact ⟨sh, v1, v2, v4⟩
        · exact ⟨sh, v2, v1, v3⟩
      have heq : ∀ rho, se_v (tm_sg n A Z) rho (m (49 + 4 * (ng - 1) + 2)) = se_v (tm_sg n A Z) rho (m (49 + 4 * (ng - 1) + 3)) → se_v (tm_sg n A Z) rho (m p) = se_v (tm_sg n A Z) rho (m f) := by
        intro rho hh
        rcases hfp with ⟨rfl, rfl, _⟩ | ⟨rfl, rfl, _⟩
        · exact hh.symm
        · exact hh
      obtain ⟨sf, q1, q2, q3⟩ := hEf
      exact li_fin hp hpr hI0 k1 k3 (iv_Rok hVV w1 w3 q1 q2 q3 (Or.inl rfl)) (iv_Rok hVV w2 w4 q1 q2 q3 (Or.inl rfl)) hx hyy (fun rho hh => se_Rf hVV q1 q2 w1 (fun _ => heq rho hh)) (fun rho hh => se_Rf hVV q1 q2 w2 (fun _ => heq rho hh)) hM1 a1 a2 a3
    have ha : (0 : Int32) ≤ nI kk := nI_pos' (by omega)
    unfold wpX_useHyp
    dsimp only
    refine br_t ha ?_
    by_cases h0 : v1 = 0
    · exact br_t h0 (hmain _ _ (Or.inl ⟨rfl, rfl, h0⟩))
    · refine br_f h0 ?_
      by_cases h1 : v1 = 1
      · exact br_t h1 (hmain _ _ (Or.inr ⟨rfl, rfl, h1⟩))
      · exact br_f h1 (hp _ _ h2)
theorem mw_useLemma (h : li_T n A Z M u) (hp : ∀ r u, li_T n A Z M u → post r u) (v1 v2 : Int32) : wpX_useLemma post u v1 v2 := by
  have h2 := h
  obtain ⟨q, ng, hy, pr, val, e2, act, m, T, L, ay, gs, so, E, B, pv, vl, el, rfl, hpr, hC, hI⟩ := h
  have hI0 := hI
  obtain ⟨hM, hW, hA, hg, hP, hv, hR, hV, hF⟩ := hI
  rcases li_act hI0 with ⟨rfl, rfl⟩ | ⟨kk, k1, k2, rfl, k3, k4, k5⟩
  · unfold wpX_useLemma
    dsimp only
    exact br_f (by decide) (hp _ _ h2)
  · obtain ⟨⟨sv, w1, w2, w3, w4, w5, w6⟩, hyt, hyf⟩ := hW.2.2.2.2.2.2 (ng - 1) (by omega)
    have hVV := (tm_sg_GS hW.1).1
    have hq8 := hW.2.1
    have hmain : ∀ jj f p, jj < q → pr jj = true → (f = 1 + 2 * jj ∧ p = 1 + 2 * jj + 1 ∧ v2 = 0) ∨ (f = 1 + 2 * jj + 1 ∧ p = 1 + 2 * jj ∧ v2 = 1) → wX_useLemma_44 post (nI jj) v2 (nI n) (nI q) (nI kk) (nI ng) T L ay gs so E B pv vl el := by
      intro jj f p hjj hpj hfp
      have hEf : ∃ sf, tm_P (tm_sg n A Z) [sf] (m f) ∧ tm_P (tm_sg n A Z) [sf] (m p) ∧ tm_FC (iv_R m) (m p) := by
        obtain ⟨sh, v1, v2, v3, v4, v5, v6⟩ := hW.2.2.2.2.1.1 jj hjj
        rcases hfp with ⟨rfl, rfl, _⟩ | ⟨rfl, rfl, _⟩
        · exact ⟨sh, v1, v2, v4⟩
        · exact ⟨sh, v2, v1, v3⟩
      have heq : ∀ rho, se_v (tm_sg n A Z) rho (m p) = se_v (tm_sg n A Z) rho (m f) := by
        intro rho
        have := hV jj (by omega) hpj rho
        rcases hfp with ⟨rfl, rfl, _⟩ | ⟨rfl, rfl, _⟩
        · exact this.symm
        · exact this
      obtain ⟨sf, q1, q2, q3⟩ := hEf
      refine xp_useLem (f := f) (p := p) k2 hW hg hM k3 hjj hfp (fun _ => hp _ _ h2) (fun _ _ _ T1 L1 E1 B1 m1 hM1 f1 => hp _ _ (li_mk hpr (li_keep0 hI0 hM1 f1))) (fun _ _ _ _ T1 L1 E1 B1 m1 hM1 f1 => hp _ _ (li_mk hpr (li_keep0 hI0 hM1 f1))) (fun hns _ _ x y T1 L1 E1 B1 m1 hx hyy hM1 a1 a2 a3 => ?_)
      exact li_fin hp hpr hI0 k1 k3 (iv_Rok hVV w1 w3 q1 q2 q3 (Or.inr hns)) (iv_Rok hVV w2 w4 q1 q2 q3 (Or.inr hns)) hx hyy (fun rho hh => se_Rp hVV q1 q2 w1 hns heq) (fun rho hh => se_Rp hVV q1 q2 w2 hns heq) hM1 a1 a2 a3
    have ha : (0 : Int32) ≤ nI kk := nI_pos' (by omega)
    unfold wpX_useLemma
    dsimp only
    refine br_t ha ?_
    by_cases hneg : v1 < 0
    · exact br_t hneg (hp _ _ h2)
    · obtain ⟨j, hj, rfl⟩ := nI_of hneg
      refine br_f hneg ?_
      by_cases h8 : j < 8
      · have a8 : ¬ (8 : Int32) ≤ nI j := nI_ge (b := 8) h8 (by decide)
        have hin : vp_in (nI j) 8 := vp_in_nI h8 (by omega)
        obtain ⟨p1, p2⟩ := hP j h8
        rw [nI_clamp (n := j) (by omega), p1]
        refine br_f a8 ⟨hin, ?_⟩
        cases hpj : pr j with
        | false => exact br_t rfl (hp _ _ h2)
        | true =>
          have hjq : j < q := by
            apply Nat.lt_of_not_le
            intro z
            rw [p2 z] at hpj
            cases hpj
          refine br_f (by decide) ?_
          by_cases h0 : v2 = 0
          · exact br_t h0 (hmain j _ _ hjq hpj (Or.inl ⟨rfl, rfl, h0⟩))
          · refine br_f h0 ?_
            by_cases h1 : v2 = 1
            · exact br_t h1 (hmain j _ _ hjq hpj (Or.inr ⟨rfl, rfl, h1⟩))
            · exact br_f h1 (hp _ _ h2)
      · have a8 : (8 : Int32) ≤ nI j := nI_le (a := 8) (by omega) hj
        exact br_t a8 (hp _ _ h2)
end MA
end
section
/-! 25: the tactics keep it: generalize, induct -/
theorem ri_vcf {v : Nat} : ¬ tm_fn (tm_vc v) := by
  unfold tm_vc
  split <;> omega
theorem ri_toF {R : Nat → List Nat} {v hh : Nat} : tm_FC R (tm_to v hh) := by
  intro c hc hf
  exfalso
  unfold tm_to at hc
  split at hc
  · rcases List.mem_cons.mp hc with e | hc
    · omega
    · rw [List.mem_singleton.mp hc] at hf
      exact ri_vcf hf
  · rcases List.mem_cons.mp hc with e | hc
    · omega
    · rcases List.mem_cons.mp hc with e | hc
      · rw [e] at hf
        exact ri_vcf hf
      · rw [List.mem_singleton.mp hc] at hf
        exact ri_vcf hf
theorem ri_baF {R : Nat → List Nat} {v : Nat} : tm_FC R (tm_ba v) := by
  intro c hc hf
  exfalso
  unfold tm_ba at hc
  split at hc
  · have := List.mem_singleton.mp hc
    omega
  · have := List.mem_singleton.mp hc
    omega
theorem ri_baL (v : Nat) : (tm_ba v).length = 1 := by
  unfold tm_ba
  split <;> rfl
theorem ri_sv {n : Nat} {A : Nat → List Nat} {Z : Nat → Nat} (hS : tm_SG n A Z) {w : List Nat} {s : Nat} (h : tm_P (tm_sg n A Z) [s] w) : s < 2 := by
  cases w with
  | nil => exact absurd h (fun z => nomatch (show [s] = [] from z))
  | cons c w =>
    obtain ⟨a, s2, S, hg, hS2, _⟩ := h
    obtain ⟨rfl, _⟩ := List.cons.inj hS2
    exact (tm_sg_b hS hg).2.2.1
section MB
variable {n : Nat} {A : Nat → List Nat} {Z : Nat → Nat} {M : Nat → Prop} {u : St1} {post : Int32 → St1 → Prop}
theorem mw_gen (h : li_T n A Z M u) (hp : ∀ r u, li_T n A Z M u → post r u) : wpX_generalize post u := by
  have h2 := h
  obtain ⟨q, ng, hy, pr, val, e2, act, m, T, L, ay, gs, so, E, B, pv, vl, el, rfl, hpr, hC, hI⟩ := h
  have hI0 := hI
  obtain ⟨hM, hW, hA, hg, hP, hv, hR, hV, hF⟩ := hI
  have hkeep : ∀ T1 L1 E1 B1 m1, mm_M 49 86 T1 L1 m1 → m1 0 = [] → (∀ s, 1 ≤ s → s < 81 → m1 s = m s) → li_T n A Z M (nI n, nI q, act, nI ng, T1, L1, ay, gs, so, E1, B1, pv, vl, el) := fun T1 L1 E1 B1 m1 hM1 x0 f1 => li_mk hpr (li_keep hI0 hM1 f1 (by rw [x0]; exact Nat.zero_le _))
  have hact : act = -1 ∨ (∃ k, k < 8 ∧ act = nI k ∧ 1 ≤ ng) := by
    rcases li_act hI0 with ⟨z, _⟩ | ⟨kk, k1, k2, k3, k4, k5, k6⟩
    · exact Or.inl z
    · exact Or.inr ⟨kk, k2, k3, k4⟩
  refine xp_gen hW hg hM hact (fun _ T1 L1 E1 B1 m1 hM1 x0 f1 => hp _ _ (hkeep T1 L1 E1 B1 m1 hM1 x0 f1)) (fun _ _ T1 L1 E1 B1 m1 hM1 x0 f1 => hp _ _ (hkeep T1 L1 E1 B1 m1 hM1 x0 f1)) (fun _ _ _ _ T1 L1 E1 B1 m1 hM1 x0 f1 => hp _ _ (hkeep T1 L1 E1 B1 m1 hM1 x0 f1)) (fun _ _ _ _ _ T1 L1 E1 B1 m1 hM1 x0 f1 => hp _ _ (hkeep T1 L1 E1 B1 m1 hM1 x0 f1)) (fun _ _ _ _ _ _ T1 L1 E1 B1 m1 hM1 x0 f1 => hp _ _ (hkeep T1 L1 E1 B1 m1 hM1 x0 f1)) (fun sv v hne hts hns hz hfr T1 L1 E1 B1 m1 hM1 x0 x1 x2 f1 => ?_)
  rcases li_act hI0 with ⟨z, _⟩ | ⟨kk, k1, k2, rfl, k3, k4, k5⟩
  · exact absurd z hne
  · obtain ⟨⟨sg, w1, w2, w3, w4, w5, w6⟩, hyt, hyf⟩ := hW.2.2.2.2.2.2 (ng - 1) (by omega)
    have hS := hW.1
    have hVV := (tm_sg_GS hS).1
    have p1 := tm_ts_P.mp hts
    have hsv := ri_sv hS p1
    have hv1 := hfr.1
    have hv2 := hfr.2.1
    have hPv := ri_Pv (n := n) (A := A) (Z := Z) (v := v) (by omega)
    rw [show (if v < 8 then 0 else 1) = sv by split <;> omega] at hPv
    have hFv : tm_FC (iv_R m) [tm_vc v] := by
      intro c hc hf
      rw [List.mem_singleton.mp hc] at hf
      exact absurd hf ri_vcf
    have r1 := iv_Rok (pat := false) (fr := m 0) (to := [tm_vc v]) hVV w1 w3 p1 hPv hFv (Or.inl rfl)
    have r2 := iv_Rok (pat := false) (fr := m 0) (to := [tm_vc v]) hVV w2 w4 p1 hPv hFv (Or.inl rfl)
    have d1 := tm_R_len1 (g := tm_sg n A Z) (w := m (49 + 4 * (ng - 1))) (fr := m 0) (to := [tm_vc v]) rfl _ 0 (Nat.le_refl _)
    have d2 := tm_R_len1 (g := tm_sg n A Z) (w := m (49 + 4 * (ng - 1) + 1)) (fr := m 0) (to := [tm_vc v]) rfl _ 0 (Nat.le_refl _)
    refine hp _ _ (li_mk hpr (li_goal hI0 k3 hM1 f1 (by rw [x0]; exact Nat.zero_le _) ?_ (sd_gen hVV (by omega) p1 hPv w1 w2 hfr.2.2.1 x1 x2 (f1 _ (by omega) (by omega) (by omega) (by omega)) (f1 _ (by omega) (by omega) (by omega) (by omega)))))
    rw [x1, x2]
    exact ⟨sg, r1.1, r2.1, r1.2, r2.2, by omega, by omega⟩
theorem mw_induct (h : li_T n A Z M u) (hp : ∀ r u, li_T n A Z M u → post r u) (v1 : Int32) : wpX_induct post u v1 := by
  have h2 := h
  obtain ⟨q, ng, hy, pr, val, e2, act, m, T, L, ay, gs, so, E, B, pv, vl, el, rfl, hpr, hC, hI⟩ := h
  have hI0 := hI
  obtain ⟨hM, hW, hA, hg, hP, hv, hR, hV, hF⟩ := hI
  rcases li_act hI0 with ⟨rfl, rfl⟩ | ⟨kk, k1, k2, rfl, k3, k4, k5⟩
  · unfold wpX_induct
    dsimp only
    exact br_f (by decide) (hp _ _ h2)
  · have ha : (0 : Int32) ≤ nI kk := nI_pos' (by omega)
    by_cases hneg : v1 < 0
    · unfold wpX_induct
      dsimp only
      exact br_t ha (br_t hneg (hp _ _ h2))
    · obtain ⟨v, hj, rfl⟩ := nI_of hneg
      by_cases hv16 : v < 16
      · refine xp_induct k2 hv16 hW hg hM k3 (fun _ => hp _ _ h2) (fun _ _ => hp _ _ h2) (fun hh _ _ _ _ T1 L1 E1 B1 m1 hM1 f1 => hp _ _ (li_mk hpr (li_keep0 hI0 hM1 f1))) (fun hh hin h8 hfr z1 z2 T1 L1 E1 B1 m1 hM1 x1 x2 x3 x4 x5 x6 x7 x8 f1 => ?_)
        obtain ⟨⟨sg, w1, w2, w3, w4, w5, w6⟩, hyt, hyf⟩ := hW.2.2.2.2.2.2 (ng - 1) (by omega)
        have hS := hW.1
        have h48 := hW.2.2.2.1
        have hVV := (tm_sg_GS hS).1
        have hh8 : 8 ≤ v → hh < 8 := fun z => by
          have := (hfr z).2.1
          omega
        have hPv := ri_Pv (n := n) (A := A) (Z := Z) hv16
        have r1 := iv_Rok (pat := false) (fr := [tm_vc v]) hVV w1 w3 hPv (ri_to hv16 hh8) (ri_toF (R := iv_R m)) (Or.inl rfl)
        have r2 := iv_Rok (pat := false) (fr := [tm_vc v]) hVV w2 w4 hPv (ri_to hv16 hh8) (ri_toF (R := iv_R m)) (Or.inl rfl)
        have b1 := iv_Rok (pat := false) (fr := [tm_vc v]) hVV w1 w3 hPv ri_ba (ri_baF (R := iv_R m)) (Or.inl rfl)
        have b2 := iv_Rok (pat := false) (fr := [tm_vc v]) hVV w2 w4 hPv ri_ba (ri_baF (R := iv_R m)) (Or.inl rfl)
        have n1 := tm_R_len1 (g := tm_sg n A Z) (w := m (49 + 4 * (ng - 1))) (fr := [tm_vc v]) (ri_baL v) _ 0 (Nat.le_refl _)
        have n2 := tm_R_len1 (g := tm_sg n A Z) (w := m (49 + 4 * (ng - 1) + 1)) (fr := [tm_vc v]) (ri_baL v) _ 0 (Nat.le_refl _)
        have hW2 : iv_W n A Z q (ng + 1) (fun j => if j = ng then false else if j = ng - 1 then true else hy j) m1 := by
          refine iv_W_goals (fun s a b => f1 s (by omega) (by omega)) (by rw [f1 0 (by omega) (by omega)]; exact h48) (by omega) hW (fun j hj => ?_)
          by_cases q1 : j = ng
          · have ej : 49 + 4 * j = 49 + 4 * (ng - 1) + 4 := by omega
            rw [ej, x5, x6]
            refine ⟨⟨sg, b1.1, b2.1, b1.2, b2.2, by omega, by omega⟩, fun z => ?_, fun _ => ⟨x7, x8⟩⟩
            rw [if_pos q1] at z
            cases z
          · by_cases q2 : j = ng - 1
            · rw [q2, x1, x2, x3, x4]
              refine ⟨⟨sg, r1.1, r2.1, r1.2, r2.2, z1, z2⟩, fun _ => ⟨sg, w1, w2, w3, w4, w5, w6⟩, fun z => ?_⟩
              rw [if_neg (by omega), if_pos rfl] at z
              cases z
            · have := hW.2.2.2.2.2.2 j (by omega)
              rw [f1 (49 + 4 * j) (by omega) (by omega), f1 (49 + 4 * j + 1) (by omega) (by omega), f1 (49 + 4 * j + 2) (by omega) (by omega), f1 (49 + 4 * j + 3) (by omega) (by omega)]
              try dsimp only
              rw [if_neg q1, if_neg q2]
              exact this
        refine hp _ _ (li_mk hpr ⟨hM1, hW2, Or.inr ⟨kk, k1, rfl, by omega, k5⟩, hg, hP, hv, li_RVx (fun i hi => f1 (17 + i) (by omega) (by omega)) hR, li_Vx (fun s a b => f1 s (by omega) (by omega)) hV, li_Fx (fun s a b => f1 s (by omega) (by omega)) (fun hj => ?_) hF⟩)
        refine sd_step (ng := ng) (ng' := ng + 1) (by omega) (fun s a b => f1 s (by omega) (by omega)) (fun h => ?_) id hj
        have hst := h (ng - 1) (Nat.le_refl _) (by omega)
        have hba := h ng (by omega) (by omega)
        rw [show 49 + 4 * ng = 49 + 4 * (ng - 1) + 4 by omega] at hba
        exact sd_ind hS hv16 (fun z => ⟨hh8 z, (hfr z).2.2.1⟩) x1 x2 x3 x4 x5 x6 x7 x8 hst hba
      · have a16 : ¬ nI v < 16 := nI_nlt (b := 16) (by omega) hj
        unfold wpX_induct
        dsimp only
        exact br_t ha (br_f hneg (br_f a16 (hp _ _ h2)))
end MB
end
section
/-! 26: feed, conjecture, status, evaluate, setVar keep it -/
def nb_i (b : Int32) (i : Nat) : Nat := (b >>> (nI (4 * i) &&& 31)).toBitVec.toNat % 16
theorem nb_e (b : Int32) (i : Nat) : (b >>> ((4 * nI i) &&& 31)) &&& 15 = nI (nb_i b i) := by
  rw [show (4 : Int32) * nI i = nI (4 * i) from pk_mul 4 i]
  exact pk_and _ 4 (by decide)
theorem nb_lt (b : Int32) (i : Nat) : nb_i b i < 16 := Nat.mod_lt _ (by decide)
section SV
variable {xn xq xa xg : Int32} {T L ay gs so E B pv vl el : Nat → Int32} {b : Int32} {v a : Nat}
theorem sx_49 {post : Int32 → St1 → Prop} (hv : v < 16) (ha : a ≤ 4) (h1 : (∀ j, j < a → nb_i b j ≤ 3) → post 1 (xn, xq, xa, xg, T, L, ay, gs, so, E, B, pv, upd vl v (nI a), upd el v b)) (h0 : ∀ j, j < a → 3 < nb_i b j → post 0 (xn, xq, xa, xg, T, L, ay, gs, so, E, B, pv, vl, el)) : ∀ f i, a < f + i → i ≤ a → (∀ j, j < i → nb_i b j ≤ 3) → wX_setVar_49 post (nI v) (nI a) b xn xq xa xg T L ay gs so E B pv vl el f (nI i) := by
  intro f
  induction f with
  | zero => intro i x y; omega
  | succ f ih =>
    intro i x y hj
    rw [wX_setVar_49]
    dsimp only
    rw [nI_clamp (n := v) (by omega), nb_e]
    have hl := nb_lt b i
    have hin : vp_in (nI v) 16 := vp_in_nI hv (by omega)
    refine pk_le a i (fun hge => ⟨hin, nm_e ⟨hin, nm_e (h1 (fun j z => hj j (by omega)))⟩⟩) (fun hlt => pk_le (nb_i b i) 3 (fun z => ?_) (fun z => h0 i hlt z))
    refine nm_r (nI_1 i) (ih (i + 1) (by omega) (by omega) (fun j z2 => ?_))
    by_cases e : j = i
    · rw [e]; exact z
    · exact hj j (by omega)
end SV
section MC
variable {n : Nat} {A : Nat → List Nat} {Z : Nat → Nat} {M : Nat → Prop} {u : St1} {post : Int32 → St1 → Prop}
theorem mw_feed (h : li_T n A Z M u) (hp : ∀ r u, li_T n A Z M u → post r u) (v1 v2 v3 v4 : Int32) : wpX_feed post u v1 v2 v3 v4 := by
  obtain ⟨q, ng, hy, pr, val, e2, act, m, T, L, ay, gs, so, E, B, pv, vl, el, rfl, hpr, hC, hI⟩ := h
  have hI0 := hI
  obtain ⟨hM, hW, hA, hg, hP, hv, hR, hV, hF⟩ := hI
  refine xp_feed hM hW.2.2.2.1 (fun hle T1 L1 hM1 => hp _ _ (li_mk hpr (li_keep hI0 hM1 (fun s a b => mm_set_n (by omega)) ?_))) (fun hgt T1 hM1 => hp _ _ (li_mk hpr (li_keep0 hI0 hM1 (fun _ _ => rfl))))
  rw [mm_set_s, List.length_append]
  exact hle
theorem mw_conj (h : li_T n A Z M u) (hp : ∀ r u, li_T n A Z M u → post r u) : wpX_conjecture post u := by
  obtain ⟨q, ng, hy, pr, val, e2, act, m, T, L, ay, gs, so, E, B, pv, vl, el, rfl, hpr, hC, hI⟩ := h
  have hI0 := hI
  obtain ⟨hM, hW, hA, hg, hP, hv, hR, hV, hF⟩ := hI
  have h48 := hW.2.2.2.1
  have hXn := mm_nil hM (s := 0) (by omega)
  have hkeep : li_T n A Z M (nI n, nI q, act, nI ng, T, upd L 0 0, ay, gs, so, E, B, pv, vl, el) := by
    refine li_mk hpr (li_keep hI0 hXn (fun s a b => mm_set_n (by omega)) ?_)
    rw [mm_set_s]
    exact Nat.zero_le _
  refine xp_conj hW hg hM (fun hno => hp _ _ hkeep) (fun e hQ hFc => hp _ _ hkeep) (fun e hQ hFc hq9 => hp _ _ hkeep) (fun e T1 L1 m1 hQ hFc hq9 hM1 x0 x1 x2 x3 x4 x5 x6 x7 => ?_)
  obtain ⟨qe, q61, sv, p1, p2⟩ := hQ
  have hE : iv_E (tm_sg n A Z) (iv_R m) (m1 (1 + 2 * q)) (m1 (1 + 2 * q + 1)) := by
    rw [x1, x2]
    refine ⟨sv, p1, p2, fun c hc hf => hFc c (List.mem_of_mem_take hc) hf, fun c hc hf => hFc c (List.mem_of_mem_drop hc) hf, ?_, ?_⟩
    · rw [List.length_take]
      omega
    · rw [List.length_drop]
      omega
  have hW2 : iv_W n A Z (q + 1) 1 (fun _ => false) m1 := iv_W_conj hq9 (fun s a b c d => x7 s (by omega) c d (by omega) (by omega) (by omega) (by omega)) (by rw [x0]; exact Nat.zero_le _) hE (by rw [x3, x1]) (by rw [x4, x2]) x5 x6 rfl hW
  have hprq : pr q = false := (hP q (by omega)).2 (Nat.le_refl _)
  refine hp _ _ (li_mk (ng := 1) (q := q + 1) (hy := fun _ => false) hpr ⟨hM1, hW2, Or.inr ⟨q, by omega, rfl, Nat.le_refl _, hprq⟩, hg, ?_, hv, li_RVx (fun i hi => x7 (17 + i) (by omega) (by omega) (by omega) (by omega) (by omega) (by omega) (by omega)) hR, ?_, ?_⟩)
  · intro j hj
    exact ⟨(hP j hj).1, fun z => (hP j hj).2 (by omega)⟩
  · intro j hj hpj
    have hne : j ≠ q := by
      intro z
      rw [z, hprq] at hpj
      cases hpj
    rw [x7 (1 + 2 * j) (by omega) (by omega) (by omega) (by omega) (by omega) (by omega) (by omega), x7 (1 + 2 * j + 1) (by omega) (by omega) (by omega) (by omega) (by omega) (by omega) (by omega)]
    exact hV j hj hpj
  · intro j hj z hgo
    have e9 : q = j := (nI_eq (by omega) (by omega)).mp z
    subst e9
    intro rho
    have k := hgo 0 (by omega) rho
    have e49 : m1 (49 + 4 * 0) = (m 0).take e := x3
    have e50 : m1 (49 + 4 * 0 + 1) = (m 0).drop (e + 1) := x4
    have e51 : m1 (49 + 4 * 0 + 2) = [] := x5
    have e52 : m1 (49 + 4 * 0 + 3) = [] := x6
    rw [e49, e50, e51, e52] at k
    rw [x1, x2]
    exact k rfl
theorem mw_status {post : Int32 → Prop} (h : li_T n A Z M u) {j : Nat} (hj : j < 8) (hp : ∀ r, (M j → r = 3) → (r = 3 → li_T n A Z (fun i => M i ∨ i = j) u) → post r) : wpX_status post u (nI j) := by
  obtain ⟨q, ng, hy, pr, val, e2, act, m, T, L, ay, gs, so, E, B, pv, vl, el, rfl, hpr, hC, hI⟩ := h
  have hI0 := hI
  obtain ⟨hM, hW, hA, hg, hP, hv, hR, hV, hF⟩ := hI
  have hq := hW.2.1
  obtain ⟨p1, p2⟩ := hP j hj
  have hno : pr j ≠ true → ∀ r, r ≠ 3 → post r := fun z r hr => hp r (fun y => absurd (hpr j hj y) z) (fun y => absurd y hr)
  unfold wpX_status
  dsimp only
  refine br_f (nI_pos (by omega)) ?_
  rw [nI_clamp (n := j) (by omega), p1]
  by_cases hjq : j < q
  · refine br_t (nI_lt hjq (by omega)) ⟨vp_in_nI hj (by omega), ?_⟩
    by_cases hpj : pr j = true
    · rw [if_pos hpj]
      refine br_f (by decide) (hp 3 (fun _ => rfl) (fun _ => ?_))
      refine li_mk (fun k hk hm => ?_) hI0
      rcases hm with hm | hm
      · exact hpr k hk hm
      · rw [hm]
        exact hpj
    · rw [if_neg hpj]
      refine br_t rfl ?_
      by_cases ha : nI j = act
      · exact br_t ha (hno hpj 2 (by decide))
      · exact br_f ha (hno hpj 1 (by decide))
  · refine br_f (nI_nlt (by omega) (by omega)) (hno ?_ 0 (by decide))
    rw [p2 (by omega)]
    decide
theorem mw_eval (h : li_T n A Z M u) {j : Nat} (hj : j < 8) (hm : M j) (hp : ∀ r u, r ≠ 2 → li_T n A Z M u → post r u) : wpX_evaluate post u (nI j) := by
  obtain ⟨q, ng, hy, pr, val, e2, act, m, T, L, ay, gs, so, E, B, pv, vl, el, rfl, hpr, hC, hI⟩ := h
  have hI0 := hI
  obtain ⟨hM, hW, hA, hg, hP, hv, hR, hV, hF⟩ := hI
  have hq := hW.2.1
  have hpj := hpr j hj hm
  have hjq : j < q := by
    apply Nat.lt_of_not_le
    intro z
    rw [(hP j hj).2 z] at hpj
    cases hpj
  obtain ⟨sg, w1, w2, w3, w4, w5, w6⟩ := hW.2.2.2.2.1.1 j hjq
  refine xp_eval hv hW hg hM hjq (fun _ T1 L1 E1 B1 m1 hM1 f1 => hp _ _ (by decide) (li_mk hpr (li_keep0 hI0 hM1 f1))) (fun x y hx hyy T1 L1 E1 B1 m1 hM1 f1 => ⟨fun _ => hp _ _ (by decide) (li_mk hpr (li_keep0 hI0 hM1 f1)), fun z => ?_⟩)
  exact absurd (sd_eval hW.1 hW.2.2.2.2.2.1.1 hR w1 w2 w3 w4 (hV j hj hpj) hx hyy) z
theorem mw_setVar (h : li_T n A Z M u) (hp : ∀ r u, li_T n A Z M u → post r u) (v1 v2 v3 : Int32) : wpX_setVar post u v1 v2 v3 := by
  have h2 := h
  obtain ⟨q, ng, hy, pr, val, e2, act, m, T, L, ay, gs, so, E, B, pv, vl, el, rfl, hpr, hC, hI⟩ := h
  have hI0 := hI
  obtain ⟨hM, hW, hA, hg, hP, hv, hR, hV, hF⟩ := hI
  unfold wpX_setVar
  dsimp only
  by_cases h0 : v1 < 0
  · exact br_t h0 (hp _ _ h2)
  · obtain ⟨w, hw, rfl⟩ := nI_of h0
    refine br_f h0 ?_
    by_cases h16 : w < 16
    · have a16 : ¬ (16 : Int32) ≤ nI w := nI_ge (b := 16) h16 (by decide)
      refine br_f a16 ?_
      by_cases hneg : v2 < 0
      · have hng : ¬ (0 : Int32) ≤ v2 := Int32.not_le.mpr hneg
        exact br_f hng (hp _ _ h2)
      · have hng : (0 : Int32) ≤ v2 := Int32.not_lt.mp hneg
        obtain ⟨a, ha, rfl⟩ := nI_of hneg
        refine br_t hng ?_
        by_cases w8 : w < 8
        · have b8 : ¬ (8 : Int32) ≤ nI w := nI_ge (b := 8) w8 (by decide)
          refine br_f b8 ?_
          by_cases a7 : a ≤ 7
          · have c7 : nI a ≤ 7 := nI_le (b := 7) a7 (by decide)
            have hin : vp_in (nI w) 16 := vp_in_nI h16 (by omega)
            refine br_t c7 ⟨hin, nm_e (hp _ _ ?_)⟩
            rw [nI_clamp (n := w) (by omega)]
            obtain ⟨val', q1, q2⟩ : ∃ f : Nat → Nat, f w = a ∧ ∀ x, x ≠ w → f x = val x := ⟨fun x => if x = w then a else val x, if_pos rfl, fun x h => if_neg h⟩
            refine li_mk (val := val') (e2 := e2) hpr ⟨hM, hW, hA, hg, hP, fun x hx => ?_, hR, hV, hF⟩
            by_cases e : x = w
            · subst e
              rw [mm_us, q1]
              exact ⟨rfl, a7, fun z => by omega⟩
            · rw [mm_un e, q2 x e]
              exact hv x hx
          · have c7 : ¬ nI a ≤ 7 := nI_ge (a := 7) (by omega) ha
            exact br_f c7 (hp _ _ h2)
        · have b8 : (8 : Int32) ≤ nI w := nI_le (a := 8) (by omega) hw
          refine br_t b8 ?_
          by_cases a4 : a ≤ 4
          · have c4 : nI a ≤ 4 := nI_le (b := 4) a4 (by decide)
            refine br_t c4 ⟨a + 1, sx_49 h16 a4 (fun hok => hp _ _ ?_) (fun j hj hbad => hp _ _ h2) (a + 1) 0 (by omega) (Nat.zero_le _) (fun j z => absurd z (Nat.not_lt_zero _))⟩
            obtain ⟨val', q1, q2⟩ : ∃ f : Nat → Nat, f w = a ∧ ∀ x, x ≠ w → f x = val x := ⟨fun x => if x = w then a else val x, if_pos rfl, fun x h => if_neg h⟩
            obtain ⟨e3, r1, r2⟩ : ∃ f : Nat → Nat → Nat, f w = nb_i v3 ∧ ∀ x, x ≠ w → f x = e2 x := ⟨fun x => if x = w then nb_i v3 else e2 x, if_pos rfl, fun x h => if_neg h⟩
            refine li_mk (val := val') (e2 := e3) hpr ⟨hM, hW, hA, hg, hP, fun x hx => ?_, hR, hV, hF⟩
            by_cases e : x = w
            · subst e
              rw [mm_us, mm_us, q1, r1]
              refine ⟨rfl, by omega, fun _ => ⟨a4, fun i hi => ⟨hok i hi, ?_⟩⟩⟩
              have := nb_e v3 i
              rw [show (4 : Int32) * nI i = nI (4 * i) from pk_mul 4 i] at this
              exact this
            · rw [mm_un e, mm_un e, q2 x e, r2 x e]
              exact hv x hx
          · have c4 : ¬ nI a ≤ 4 := nI_ge (a := 4) (by omega) ha
            exact br_f c4 (hp _ _ h2)
    · have a16 : (16 : Int32) ≤ nI w := nI_le (a := 16) (by omega) hw
      exact br_t a16 (hp _ _ h2)
end MC
end
section
/-! 27: the law's signature; its eight rules are true -/
def lz_A : Nat → List Nat := fun f => if f = 0 then [0, 0] else if f = 1 then [1, 1] else [1]
def lz_Z : Nat → Nat := fun f => if f = 0 then 0 else if f = 1 then 1 else if f = 2 then 0 else 1
theorem lz_a {rho : Nat → Nat} {st : List Nat} : se_op (tm_sg 4 lz_A lz_Z) rho 97 st = rho 0 :: st := rfl
theorem lz_b {rho : Nat → Nat} {st : List Nat} : se_op (tm_sg 4 lz_A lz_Z) rho 98 st = rho 1 :: st := rfl
theorem lz_p {rho : Nat → Nat} {st : List Nat} : se_op (tm_sg 4 lz_A lz_Z) rho 112 st = rho 8 :: st := rfl
theorem lz_q {rho : Nat → Nat} {st : List Nat} : se_op (tm_sg 4 lz_A lz_Z) rho 113 st = rho 9 :: st := rfl
theorem lz_oF {rho : Nat → Nat} {x y : Nat} {st : List Nat} : se_op (tm_sg 4 lz_A lz_Z) rho 70 (x :: y :: st) = (x + y) :: st := rfl
theorem lz_oG {rho : Nat → Nat} {x y : Nat} {st : List Nat} : se_op (tm_sg 4 lz_A lz_Z) rho 71 (x :: y :: st) = se_en (se_de x ++ se_de y) :: st := rfl
theorem lz_oH {rho : Nat → Nat} {x : Nat} {st : List Nat} : se_op (tm_sg 4 lz_A lz_Z) rho 72 (x :: st) = (se_de x).length :: st := rfl
theorem lz_oI {rho : Nat → Nat} {x : Nat} {st : List Nat} : se_op (tm_sg 4 lz_A lz_Z) rho 73 (x :: st) = se_en (se_de x).reverse :: st := rfl
theorem lz_r1 (rho : Nat → Nat) : se_v (tm_sg 4 lz_A lz_Z) rho [98] = se_v (tm_sg 4 lz_A lz_Z) rho [70, 90, 98] := by
  rw [se_v_cons, se_v_cons, se_v_cons, se_v_cons, se_v_nil, lz_b, se_o90, lz_oF, Nat.zero_add]
theorem lz_r2 (rho : Nat → Nat) : se_v (tm_sg 4 lz_A lz_Z) rho [83, 70, 97, 98] = se_v (tm_sg 4 lz_A lz_Z) rho [70, 83, 97, 98] := by
  simp only [se_v_cons, se_v_nil, lz_b, lz_a, lz_oF, se_o83]
  rw [show rho 0 + rho 1 + 1 = rho 0 + 1 + rho 1 by omega]
theorem lz_r3 (rho : Nat → Nat) : se_v (tm_sg 4 lz_A lz_Z) rho [113] = se_v (tm_sg 4 lz_A lz_Z) rho [71, 78, 113] := by
  simp only [se_v_cons, se_v_nil, lz_q, se_o78, lz_oG, se_de_0, List.nil_append, se_en_de]
theorem lz_r4 (rho : Nat → Nat) : se_v (tm_sg 4 lz_A lz_Z) rho [67, 97, 71, 112, 113] = se_v (tm_sg 4 lz_A lz_Z) rho [71, 67, 97, 112, 113] := by
  simp only [se_v_cons, se_v_nil, lz_q, lz_p, lz_a, se_o67, lz_oG, se_de_co, List.cons_append]
  rfl
theorem lz_r5 (rho : Nat → Nat) : se_v (tm_sg 4 lz_A lz_Z) rho [90] = se_v (tm_sg 4 lz_A lz_Z) rho [72, 78] := by
  simp only [se_v_cons, se_v_nil, se_o90, se_o78, lz_oH, se_de_0, List.length_nil]
theorem lz_r6 (rho : Nat → Nat) : se_v (tm_sg 4 lz_A lz_Z) rho [83, 72, 112] = se_v (tm_sg 4 lz_A lz_Z) rho [72, 67, 97, 112] := by
  simp only [se_v_cons, se_v_nil, lz_p, lz_a, se_o67, lz_oH, se_o83, se_de_co, List.length_cons]
theorem lz_r7 (rho : Nat → Nat) : se_v (tm_sg 4 lz_A lz_Z) rho [78] = se_v (tm_sg 4 lz_A lz_Z) rho [73, 78] := by
  simp only [se_v_cons, se_v_nil, se_o78, lz_oI, se_de_0, List.reverse_nil]
  rfl
theorem lz_r8 (rho : Nat → Nat) : se_v (tm_sg 4 lz_A lz_Z) rho [71, 73, 112, 67, 97, 78] = se_v (tm_sg 4 lz_A lz_Z) rho [73, 67, 97, 112] := by
  simp only [se_v_cons, se_v_nil, lz_p, lz_a, se_o67, se_o78, lz_oI, lz_oG, se_de_en, se_de_co, se_de_0, List.reverse_cons]
/-- a rule's text: wherever it is cut at its '=', the two sides mean the same -/
def lz_ok (t : List Nat) : Prop := ∀ e, e < t.length → tm_at t e = 61 → ∀ rho, se_v (tm_sg 4 lz_A lz_Z) rho (t.drop (e + 1)) = se_v (tm_sg 4 lz_A lz_Z) rho (t.take e)
theorem lz_mk {t : List Nat} (e0 : Nat) (h : ∀ e, e < t.length → tm_at t e = 61 → e = e0) (hv : ∀ rho, se_v (tm_sg 4 lz_A lz_Z) rho (t.drop (e0 + 1)) = se_v (tm_sg 4 lz_A lz_Z) rho (t.take e0)) : lz_ok t := by
  intro e he h1
  rw [h e he h1]
  exact hv
theorem lz_t1 : lz_ok [70, 90, 98, 61, 98] := lz_mk 3 (by decide) lz_r1
theorem lz_t2 : lz_ok [70, 83, 97, 98, 61, 83, 70, 97, 98] := lz_mk 4 (by decide) lz_r2
theorem lz_t3 : lz_ok [71, 78, 113, 61, 113] := lz_mk 3 (by decide) lz_r3
theorem lz_t4 : lz_ok [71, 67, 97, 112, 113, 61, 67, 97, 71, 112, 113] := lz_mk 5 (by decide) lz_r4
theorem lz_t5 : lz_ok [72, 78, 61, 90] := lz_mk 2 (by decide) lz_r5
theorem lz_t6 : lz_ok [72, 67, 97, 112, 61, 83, 72, 112] := lz_mk 4 (by decide) lz_r6
theorem lz_t7 : lz_ok [73, 78, 61, 78] := lz_mk 2 (by decide) lz_r7
theorem lz_t8 : lz_ok [73, 67, 97, 112, 61, 71, 73, 112, 67, 97, 78] := lz_mk 4 (by decide) lz_r8
theorem ri_fn {n : Nat} {A : Nat → List Nat} {Z : Nat → Nat} (hS : tm_SG n A Z) {w S : List Nat} {c : Nat} (hP : tm_P (tm_sg n A Z) S w) (hc : c ∈ w) (hf : tm_fn c) : c < 70 + n := by
  obtain ⟨a, s, hg⟩ := tm_P_sym hP hc
  rcases tm_sg_c n A Z c hS.1 with ⟨e, _⟩ | ⟨e, _⟩ | ⟨e, _⟩ | ⟨e, _⟩ | ⟨e, _⟩ | ⟨e, _⟩ | ⟨f, hf, e, _⟩ | ⟨q, _⟩
  · omega
  · omega
  · omega
  · omega
  · omega
  · omega
  · omega
  · rw [hg] at q
    cases q
section MD
variable {M : Nat → Prop} {u : St1} {post : Int32 → St1 → Prop}
theorem mw_feedC {n : Nat} {A : Nat → List Nat} {Z : Nat → Nat} {t : List Nat} (h : li_S n A Z M (fun m => m 0 = []) u) (v1 v2 v3 v4 : Int32) (ht : fd_l (fd_b v1 v2 v3 v4) 16 0 = t) (hp : ∀ r u, li_S n A Z M (fun m => m 0 = t) u → post r u) : wpX_feed post u v1 v2 v3 v4 := by
  obtain ⟨q, ng, hy, pr, val, e2, act, m, T, L, ay, gs, so, E, B, pv, vl, el, rfl, hpr, hC, hI⟩ := h
  have hI0 := hI
  obtain ⟨hM, hW, hA, hg, hP, hv, hR, hV, hF⟩ := hI
  have hC' : m 0 = [] := hC
  have hlen := fd_l_len (b := fd_b v1 v2 v3 v4) 16 0
  refine xp_feed hM hW.2.2.2.1 (fun hle T1 L1 hM1 => hp _ _ (li_mkC hpr ?_ (li_keep hI0 hM1 (fun s a b => mm_set_n (by omega)) ?_))) (fun hgt T1 hM1 => ?_)
  · show mm_set m 0 (m 0 ++ fd_l (fd_b v1 v2 v3 v4) 16 0) 0 = t
    rw [mm_set_s, hC', ht]
    rfl
  · rw [mm_set_s, List.length_append]
    exact hle
  · exfalso
    rw [hC', List.length_nil] at hgt
    omega
theorem mw_define {t : List Nat} (h : li_S 4 lz_A lz_Z M (fun m => m 0 = t) u) (ht : lz_ok t) (hp : ∀ r u, li_S 4 lz_A lz_Z M (fun m => m 0 = []) u → post r u) : wpX_defineRule post u := by
  obtain ⟨q, ng, hy, pr, val, e2, act, m, T, L, ay, gs, so, E, B, pv, vl, el, rfl, hpr, hC, hI⟩ := h
  have hI0 := hI
  obtain ⟨hM, hW, hA, hg, hP, hv, hR, hV, hF⟩ := hI
  have hC' : m 0 = t := hC
  have h48 := hW.2.2.2.1
  have hS := hW.1
  have hg8 := hW.2.2.1
  have hXn := mm_nil hM (s := 0) (by omega)
  have hkeep : li_S 4 lz_A lz_Z M (fun m => m 0 = []) (nI 4, nI q, act, nI ng, T, upd L 0 0, ay, gs, so, E, B, pv, vl, el) := by
    refine li_mkC hpr ?_ (li_keep hI0 hXn (fun s a b => mm_set_n (by omega)) ?_)
    · exact mm_set_s
    · rw [mm_set_s]
      exact Nat.zero_le _
  refine xp_define hW hg hM (fun hno => hp _ _ hkeep) (fun e hQ hFn => hp _ _ hkeep) (fun e kd hQ hFn hkd hne => hp _ _ hkeep) (fun e kd T1 L1 m1 hQ hFo hkd hnil hM1 x0 x1 x2 x3 => ?_)
  have hfn : tm_fn (tm_at (m 0) 0) := hFo.1.1
  have hk2 : kd < 2 := by
    have := tm_kd_c hkd
    omega
  obtain ⟨qe, q61, sv, p1, p2⟩ := hQ
  have epos : 0 < e := by
    have := tm_P_ne p1
    rw [List.length_take] at this
    omega
  have hdec : tm_at (m 0) 0 < 70 + 4 := by
    refine ri_fn hS p1 ?_ hfn
    rw [← tm_at_take (w := m 0) epos]
    exact tm_at_mem (by rw [List.length_take]; omega)
  generalize hf9 : tm_at (m 0) 0 - 70 = f9 at *
  have hf8 : f9 < 8 := by omega
  have hfn9 : f9 < 4 := by omega
  have hneR : ∀ i, i < 32 → iv_R m i ≠ [] → iv_R m1 i ≠ [] := by
    intro i hi hn
    by_cases q1 : i = 4 * f9 + 2 * kd
    · rw [q1] at hn
      exact absurd hnil hn
    · by_cases q2 : i = 4 * f9 + 2 * kd + 1
      · rw [q2] at hn
        exact absurd ((hW.2.2.2.2.2.1.2.1 f9 kd hf8 hk2).2 hnil) hn
      · show m1 (17 + i) ≠ []
        rw [x3 _ (by omega) (by omega) (by omega)]
        exact hn
  have hRW := eq_RW (R := iv_R m) (R' := iv_R m1) (k := kd) ⟨qe, q61, sv, p1, p2⟩ hFo hkd (by rw [hf9]; exact x1) (by rw [hf9]; exact x2) hneR
  rw [hf9] at hRW
  have hW2 : iv_W 4 lz_A lz_Z q ng hy m1 := by
    refine iv_W_rule (f := f9) (k := kd) hf8 hk2 hfn9 hnil (fun s a b c d => x3 s (by omega) c d) ?_ ?_ ?_ hW hRW
    · rw [x0]
      exact Nat.zero_le _
    · rw [x1, List.length_take]
      omega
    · rw [x2, List.length_drop]
      omega
  have y1 : iv_R m1 (4 * f9 + 2 * kd) = (m 0).take e := x1
  have y2 : iv_R m1 (4 * f9 + 2 * kd + 1) = (m 0).drop (e + 1) := x2
  refine hp _ _ (li_mkC hpr x0 ⟨hM1, hW2, hA, hg, hP, hv, ?_, li_Vx (fun s a b => x3 s (by omega) (by omega) (by omega)) hV, li_Fx (fun s a b => x3 s (by omega) (by omega) (by omega)) (fun hj j h => ?_) hF⟩)
  · intro f k3 hf hk3 hne
    by_cases q1 : f = f9 ∧ k3 = kd
    · obtain ⟨rfl, rfl⟩ := q1
      rw [y1, y2]
      refine ⟨?_, fun c hc hvn => ?_⟩
      · rw [hC'] at qe q61 ⊢
        exact ht e qe q61
      · obtain ⟨i, hi, rfl⟩ := tm_mem_at hc
        rw [List.length_drop] at hi
        rw [tm_at_drop] at hvn ⊢
        obtain ⟨j, hj, ej⟩ := hFo.2.1 (e + 1 + i) (by omega) (by omega) hvn
        rw [← ej, ← tm_at_take (w := m 0) hj]
        exact tm_at_mem (by rw [List.length_take]; omega)
    · have r1 : iv_R m1 (4 * f + 2 * k3) = iv_R m (4 * f + 2 * k3) := x3 _ (by omega) (by omega) (by omega)
      have r2 : iv_R m1 (4 * f + 2 * k3 + 1) = iv_R m (4 * f + 2 * k3 + 1) := x3 _ (by omega) (by omega) (by omega)
      rw [r1] at hne
      rw [r1, r2]
      exact hR f k3 hf hk3 hne
  · exact li_Gx (x3 _ (by omega) (by omega) (by omega)) (x3 _ (by omega) (by omega) (by omega)) (x3 _ (by omega) (by omega) (by omega)) (x3 _ (by omega) (by omega) (by omega)) (hj j h)
end MD
end
section
/-! 28: declare, the constructor -/
theorem rd_ne {n : Nat} {A A' : Nat → List Nat} {Z Z' : Nat → Nat} (hn : n + 1 ≤ 8) (hA : ∀ f, f < n → A' f = A f ∧ Z' f = Z f) {c : Nat} (hc : c ≠ 70 + n) : tm_sg (n + 1) A' Z' c = tm_sg n A Z c := by
  cases e : tm_sg n A Z c with
  | some p => exact tm_sg_mono (Nat.le_succ n) hn hA c p e
  | none =>
    rcases tm_sg_c (n + 1) A' Z' c hn with ⟨z, w⟩ | ⟨z, w⟩ | ⟨z, w⟩ | ⟨z, w⟩ | ⟨z, w⟩ | ⟨z, w⟩ | ⟨f, hf, z, w⟩ | ⟨w, _⟩
    · rw [z] at e; cases e
    · rw [z] at e; cases e
    · rw [z] at e; cases e
    · rw [z] at e; cases e
    · rw [tm_sg_n z] at e; cases e
    · rw [tm_sg_l z] at e; cases e
    · rw [z, tm_sg_f (show f < n by omega) (by omega)] at e
      cases e
    · exact w
theorem rd_mask : ∀ a, a < 4 → (((1 : Int32) <<< (nI a &&& 31)) - 1).toBitVec.toNat = 2 ^ a - 1 := by decide +kernel
section ME
variable {M : Nat → Prop} {u : St1} {post : Int32 → St1 → Prop} {n a z : Nat} {A : Nat → List Nat} {Z : Nat → Nat}
theorem mw_declare (h : li_S n A Z M (fun m => ∀ s, s < 81 → m s = []) u) (hn : n < 8) (hS2 : tm_SG (n + 1) A Z) (v2 : Int32) (ha1 : 1 ≤ a) (ha3 : a ≤ 3) (hz : z < 2) (hAn : A n = so_bits a v2.toBitVec.toNat) (hZn : Z n = z) (hp : ∀ r u, li_S (n + 1) A Z M (fun m => ∀ s, s < 81 → m s = []) u → post r u) : wpX_declare post u (nI a) v2 (nI z) := by
  obtain ⟨q, ng, hy, pr, val, e2, act, m, T, L, ay, gs, so, E, B, pv, vl, el, rfl, hpr, hC, hI⟩ := h
  obtain ⟨hM, hW, hA, hg, hP, hv, hR, hV, hF⟩ := hI
  have hC' : ∀ s, s < 81 → m s = [] := hC
  have hgo : wX_declare_37 post (nI a) v2 (nI z) (nI n) (nI q) act (nI ng) T L ay gs so E B pv vl el := by
    unfold wX_declare_37 wpX_setSymbol
    have hmask : v2 &&& (((1 : Int32) <<< (nI a &&& 31)) - 1) = nI (v2.toBitVec.toNat % 2 ^ a) := pk_and v2 a (rd_mask a (by omega))
    rw [hmask, show (70 : Int32) + nI n = nI (70 + n) from nI_add 70 n, xi_ch (show 70 + n < 65536 by omega)]
    refine nm_e ?_
    dsimp only
    rw [nI_clamp (n := 70 + n) (by omega), nI_1 n]
    have hin : vp_in (nI (70 + n)) 256 := vp_in_nI (by omega) (by omega)
    refine ⟨hin, nm_e ⟨hin, nm_e ⟨hin, nm_e (nm_e ?_)⟩⟩⟩
    refine hp _ _ (li_mkC hpr hC ⟨hM, iv_W_decl hS2 (fun _ _ => ⟨rfl, rfl⟩) hW, hA, ?_, hP, hv, ?_, ?_, ?_⟩)
    · intro c hc
      by_cases q1 : c = 70 + n
      · subst q1
        have hsg := tm_sg_f (n := n + 1) (A := A) (Z := Z) (f := n) (by omega) (by omega)
        refine ⟨fun a2 s2 h2 => ?_, fun h2 => ?_⟩
        · rw [hsg] at h2
          obtain ⟨rfl, rfl⟩ := Prod.mk.inj (Option.some.inj h2)
          rw [mm_us, mm_us, mm_us, hAn, hZn, so_bits_len, so_bits_num]
          exact ⟨rfl, rfl, rfl⟩
        · rw [hsg] at h2
          cases h2
      · rw [rd_ne (by omega) (fun _ _ => ⟨rfl, rfl⟩) q1, mm_un q1, mm_un q1, mm_un q1]
        exact hg c hc
    · intro f k hf hk hne
      exact absurd (hC' (17 + (4 * f + 2 * k)) (by omega)) hne
    · intro k hk _
      rw [hC' (1 + 2 * k) (by omega), hC' (1 + 2 * k + 1) (by omega)]
      exact fun _ => rfl
    · intro k hk _ _
      rw [hC' (1 + 2 * k) (by omega), hC' (1 + 2 * k + 1) (by omega)]
      exact fun _ => rfl
  unfold wpX_declare
  dsimp only
  have a8 : nI n < 8 := nI_lt (b := 8) hn (by decide)
  have h1 : ¬ nI a < 1 := nI_nlt (b := 1) ha1 (by omega)
  have h3 : nI a ≤ 3 := nI_le (b := 3) ha3 (by decide)
  refine br_t a8 (br_f h1 (br_t h3 ?_))
  by_cases z0 : z = 0
  · exact br_t (by rw [z0]; rfl) hgo
  · have z1 : z = 1 := by omega
    exact br_f (by rw [z1]; decide) (br_t (by rw [z1]; rfl) hgo)
end ME
/-! the constructor -/
def ig_g (k : Nat) : tm_G := fun c => match tm_vn c with
  | some v => if v < k then tm_sg 0 lz_A lz_Z c else none
  | none => tm_sg 0 lz_A lz_Z c
theorem ig_v {k c v : Nat} (h : tm_vn c = some v) : ig_g k c = if v < k then some ([], if v < 8 then 0 else 1) else none := by
  unfold ig_g
  rw [h]
  dsimp only
  rw [tm_sg_V h]
theorem ig_n {k c : Nat} (h : tm_vn c = none) : ig_g k c = tm_sg 0 lz_A lz_Z c := by
  unfold ig_g
  rw [h]
theorem ig_16 (c : Nat) : ig_g 16 c = tm_sg 0 lz_A lz_Z c := by
  cases h : tm_vn c with
  | none => exact ig_n h
  | some v => rw [ig_v h, if_pos (tm_vn_ch h).2, tm_sg_V h]
theorem ig_step {k : Nat} {ay gs so : Nat → Int32} (hk : k < 16) (h : sg_X (ig_g k) ay gs so) : sg_X (ig_g (k + 1)) (upd ay (tm_vc k) 0) (upd gs (tm_vc k) 0) (upd so (tm_vc k) (if k < 8 then 0 else 1)) := by
  intro c hc
  by_cases e : c = tm_vc k
  · subst e
    rw [ig_v (tm_vn_vc hk), if_pos (by omega), mm_us, mm_us, mm_us]
    refine ⟨fun a s z => ?_, fun z => nomatch z⟩
    obtain ⟨rfl, rfl⟩ := Prod.mk.inj (Option.some.inj z)
    refine ⟨rfl, rfl, ?_⟩
    split <;> rfl
  · rw [mm_un e, mm_un e, mm_un e]
    have : ig_g (k + 1) c = ig_g k c := by
      cases h : tm_vn c with
      | none => rw [ig_n h, ig_n h]
      | some v =>
        rw [ig_v h, ig_v h]
        have hv : v ≠ k := by
          intro z
          apply e
          rw [(tm_vn_ch h).1, z]
        by_cases hlt : v < k
        · rw [if_pos hlt, if_pos (by omega)]
        · rw [if_neg hlt, if_neg (by omega)]
    rw [this]
    exact h c hc
theorem ig_0 {ay : Nat → Int32} (h : ∀ c, c < 256 → ay c = -1) : sg_X (ig_g 0) (upd (upd (upd (upd ay 90 0) 83 1) 78 0) 67 2) (upd (upd (upd (upd (fun _ => 0) 90 0) 83 0) 78 0) 67 2) (upd (upd (upd (upd (fun _ => 0) 90 0) 83 0) 78 1) 67 1) := by
  intro c hc
  by_cases e1 : c = 67
  · subst e1
    refine ⟨fun a s z => ?_, fun z => nomatch (show some (([0, 1], 1) : List Nat × Nat) = none from z)⟩
    obtain ⟨rfl, rfl⟩ := Prod.mk.inj (Option.some.inj (show some (([0, 1], 1) : List Nat × Nat) = some (a, s) from z))
    exact ⟨rfl, rfl, rfl⟩
  by_cases e2 : c = 78
  · subst e2
    refine ⟨fun a s z => ?_, fun z => nomatch (show some (([], 1) : List Nat × Nat) = none from z)⟩
    obtain ⟨rfl, rfl⟩ := Prod.mk.inj (Option.some.inj (show some (([], 1) : List Nat × Nat) = some (a, s) from z))
    exact ⟨rfl, rfl, rfl⟩
  by_cases e3 : c = 83
  · subst e3
    refine ⟨fun a s z => ?_, fun z => nomatch (show some (([0], 0) : List Nat × Nat) = none from z)⟩
    obtain ⟨rfl, rfl⟩ := Prod.mk.inj (Option.some.inj (show some (([0], 0) : List Nat × Nat) = some (a, s) from z))
    exact ⟨rfl, rfl, rfl⟩
  by_cases e4 : c = 90
  · subst e4
    refine ⟨fun a s z => ?_, fun z => nomatch (show some (([], 0) : List Nat × Nat) = none from z)⟩
    obtain ⟨rfl, rfl⟩ := Prod.mk.inj (Option.some.inj (show some (([], 0) : List Nat × Nat) = some (a, s) from z))
    exact ⟨rfl, rfl, rfl⟩
  have hnone : ig_g 0 c = none := by
    cases hv : tm_vn c with
    | some v => rw [ig_v hv, if_neg (Nat.not_lt_zero _)]
    | none =>
      rw [ig_n hv]
      refine tm_sg_o ⟨e4, e3, e2, e1⟩ ?_ ?_ (by omega)
      · intro z
        unfold tm_vn at hv
        rw [if_pos z] at hv
        cases hv
      · intro z
        unfold tm_vn at hv
        rw [if_neg (by omega), if_pos z] at hv
        cases hv
  refine ⟨fun a s z => ?_, fun _ => ?_⟩
  · rw [hnone] at z
    cases z
  · rw [mm_un e1, mm_un e2, mm_un e3, mm_un e4]
    exact h c hc
section IN
variable {xn xq xa xg : Int32} {T L ay gs so E B pv vl el : Nat → Int32}
theorem il_168 {post : St1 → Prop} {mc ms kc ks : Nat} (h : ∀ ay gs so, sg_X (ig_g 16) ay gs so → post (xn, xq, xa, xg, T, L, ay, gs, so, E, B, pv, vl, el)) : ∀ f v ay gs so, 16 < f + v → v ≤ 16 → sg_X (ig_g v) ay gs so → wX_init_168 post mc ms kc ks f (nI v) xn xq xa xg T L ay gs so E B pv vl el := by
  intro f
  induction f with
  | zero => intro v ay gs so a b; omega
  | succ f ih =>
    intro v ay gs so a b hs
    rw [wX_init_168]
    dsimp only
    refine pk_le 16 v (fun hge => ?_) (fun hlt => ?_)
    · have e : v = 16 := by omega
      subst e
      exact h ay gs so hs
    · have hc := tm_vc_lt hlt
      have hin : vp_in (nI (tm_vc v)) 256 := vp_in_nI hc (by omega)
      have hst := ig_step hlt hs
      refine xp_letter hlt ?_
      unfold wX_init_194 wpX_setSymbol
      dsimp only
      rw [nI_clamp (n := tm_vc v) (by omega), nI_1 v]
      refine pk_le 8 v (fun h8 => ?_) (fun h8 => ?_)
      · rw [if_neg (by omega)] at hst
        exact ⟨hin, nm_e ⟨hin, nm_e ⟨hin, nm_e (nm_e (ih (v + 1) _ _ _ (by omega) (by omega) hst))⟩⟩⟩
      · rw [if_pos h8] at hst
        exact ⟨hin, nm_e ⟨hin, nm_e ⟨hin, nm_e (nm_e (ih (v + 1) _ _ _ (by omega) (by omega) hst))⟩⟩⟩
theorem il_110 {post : St1 → Prop} {mc ms kc ks : Nat} (h : ∀ ay gs so, sg_X (ig_g 16) ay gs so → post (xn, xq, xa, xg, T, L, ay, gs, so, E, B, pv, vl, el)) : ∀ f i ay, 256 < f + i → i ≤ 256 → (∀ c, c < i → ay c = -1) → wX_init_110 post mc ms kc ks xn xq xa xg f (nI i) T L ay ((fun _ => 0)) ((fun _ => 0)) E B pv vl el := by
  intro f
  induction f with
  | zero => intro i ay a b; omega
  | succ f ih =>
    intro i ay a b hi
    rw [wX_init_110]
    dsimp only
    refine pk_le 256 i (fun hge => ?_) (fun hlt => ?_)
    · have h0 := ig_0 (ay := ay) (fun c hc => hi c (by omega))
      have i90 : vp_in (90 : Int32) 256 := pk_in 90 256 (by omega)
      have i83 : vp_in (83 : Int32) 256 := pk_in 83 256 (by omega)
      have i78 : vp_in (78 : Int32) 256 := pk_in 78 256 (by omega)
      have i67 : vp_in (67 : Int32) 256 := pk_in 67 256 (by omega)
      have c90 : (90 : Int32).toNatClampNeg = 90 := by decide
      have c83 : (83 : Int32).toNatClampNeg = 83 := by decide
      have c78 : (78 : Int32).toNatClampNeg = 78 := by decide
      have c67 : (67 : Int32).toNatClampNeg = 67 := by decide
      unfold wpX_setSymbol
      dsimp only
      rw [c90, c83, c78, c67]
      exact ⟨i90, nm_e ⟨i90, nm_e ⟨i90, nm_e ⟨i83, nm_e ⟨i83, nm_e ⟨i83, nm_e ⟨i78, nm_e ⟨i78, nm_e ⟨i78, nm_e ⟨i67, nm_e ⟨i67, nm_e ⟨i67, nm_e ⟨17, il_168 h 17 0 _ _ _ (by omega) (by omega) h0⟩⟩⟩⟩⟩⟩⟩⟩⟩⟩⟩⟩⟩
    · rw [nI_clamp (n := i) (by omega)]
      refine ⟨vp_in_nI hlt (by omega), nm_e (nm_r (nI_1 i) (ih (i + 1) _ (by omega) (by omega) (fun c hc => ?_)))⟩
      by_cases e : c = i
      · rw [e, mm_us]
      · rw [mm_un e]
        exact hi c (by omega)
end IN
theorem lz_SG {k : Nat} (h : k ≤ 4) : tm_SG k lz_A lz_Z := by
  refine ⟨by omega, fun f hf => ?_⟩
  have b0 : so_B [] := fun x hx => nomatch hx
  have hc : f = 0 ∨ f = 1 ∨ f = 2 ∨ f = 3 := by omega
  rcases hc with e | e | e | e <;> subst e
  · exact ⟨by decide, by decide, so_B_mk (by decide) (so_B_mk (by decide) b0), by decide⟩
  · exact ⟨by decide, by decide, so_B_mk (by decide) (so_B_mk (by decide) b0), by decide⟩
  · exact ⟨by decide, by decide, so_B_mk (by decide) b0, by decide⟩
  · exact ⟨by decide, by decide, so_B_mk (by decide) b0, by decide⟩
theorem mw_init {post : St1 → Prop} {mc ms : Nat} (hmc : 10 ≤ mc) (hms : 5173 ≤ ms) (hp : ∀ u, li_S 0 lz_A lz_Z (fun _ => False) (fun m => ∀ s, s < 81 → m s = []) u → post u) : wpX_init post mc ms (0, 0, 0, 0) := by
  unfold wpX_init
  dsimp only
  refine ⟨by omega, by omega, by omega, by omega, by omega, by omega, by omega, by omega, by omega, by omega, by omega, by omega, by omega, by omega, by omega, by omega, by omega, by omega, by omega, by omega, 257, il_110 (fun ay gs so hs => hp _ ?_) 257 0 _ (by omega) (by omega) (fun c hc => absurd hc (Nat.not_lt_zero _))⟩
  have hempty : ∀ W N, mm_M W N (fun _ => 0) (fun _ => 0) (fun _ => []) := fun W N s hs => ⟨rfl, Nat.zero_le _, fun i hi => absurd hi (Nat.not_lt_zero _)⟩
  refine li_mkC (n := 0) (q := 0) (ng := 0) (A := lz_A) (Z := lz_Z) (hy := fun _ => false) (pr := fun _ => false) (val := fun _ => 0) (e2 := fun _ _ => 0) (m := fun _ => []) (fun k _ z => z.elim) (fun _ _ => rfl) ⟨hempty _ _, ⟨lz_SG (by omega), by omega, by omega, Nat.zero_le _, ⟨fun k hk => absurd hk (Nat.not_lt_zero _), fun _ _ _ => rfl⟩, ⟨fun f k _ _ z => absurd rfl z, fun f k _ _ => ⟨fun z => absurd rfl z, fun _ => rfl⟩, fun _ _ => Nat.zero_le _⟩, fun j hj => absurd hj (Nat.not_lt_zero _)⟩, Or.inl ⟨rfl, rfl⟩, ?_, fun k _ => ⟨rfl, fun _ => rfl⟩, fun v _ => ⟨rfl, Nat.zero_le _, fun _ => ⟨Nat.zero_le _, fun i hi => absurd hi (Nat.not_lt_zero _)⟩⟩, fun f k _ _ z => absurd rfl z, fun k _ z => (nomatch z), fun k hk z => absurd z.symm (xi_neg (by omega))⟩
  intro c hc
  have := hs c hc
  rw [ig_16] at this
  exact this
end
section
/-! 29: the law's own methods -/
section MF
variable {n : Nat} {A : Nat → List Nat} {Z : Nat → Nat} {M : Nat → Prop} {u : St1} {post : St1 → Prop}
theorem mv_setv (h : li_T n A Z M u) (hp : ∀ u, li_T n A Z M u → post u) (p1 p2 : Int32) : wpL_setv post u p1 p2 := by
  obtain ⟨c1, c2, c3, c4, c5, c6, c7, c8, c9, c10, c11, c12, c13, c14⟩ := u
  unfold wpL_setv wpL_nn
  dsimp only
  refine ⟨fun _ => ⟨by decide, mw_setVar h (fun r u hu => ?_) _ _ _⟩, fun _ => mw_setVar h (fun r u hu => ?_) _ _ _⟩
  · obtain ⟨d1, d2, d3, d4, d5, d6, d7, d8, d9, d10, d11, d12, d13, d14⟩ := u
    exact hp _ hu
  · obtain ⟨d1, d2, d3, d4, d5, d6, d7, d8, d9, d10, d11, d12, d13, d14⟩ := u
    exact hp _ hu
theorem mv_conj (h : li_T n A Z M u) (hp : ∀ u, li_T n A Z M u → post u) (p1 : Int32) : wpL_conj post u p1 := by
  obtain ⟨c1, c2, c3, c4, c5, c6, c7, c8, c9, c10, c11, c12, c13, c14⟩ := u
  unfold wpL_conj wpL_pk
  dsimp only
  refine ⟨fun _ => ?_, fun _ => ⟨fun _ => ?_, fun _ => ⟨fun _ => ?_, fun _ => ⟨fun _ => ?_, fun _ => ⟨fun _ => ?_, fun _ => ⟨fun _ => ?_, fun _ => ⟨fun _ => ?_, fun _ => ⟨fun _ => ?_, fun _ => ⟨fun _ => ?_, fun _ => ⟨fun _ => ?_, fun _ => ⟨fun _ => ?_, fun _ => ?_⟩⟩⟩⟩⟩⟩⟩⟩⟩⟩⟩
  all_goals
    refine mw_feed h (fun r u hu => ?_) _ _ _ _
    obtain ⟨d1, d2, d3, d4, d5, d6, d7, d8, d9, d10, d11, d12, d13, d14⟩ := u
    unfold wL_conj_477
    refine mw_conj hu (fun r u hu => ?_)
    obtain ⟨e1, e2, e3, e4, e5, e6, e7, e8, e9, e10, e11, e12, e13, e14⟩ := u
    exact hp _ hu
theorem mv_gen (h : li_T n A Z M u) (hp : ∀ u, li_T n A Z M u → post u) (p1 : Int32) : wpL_gen post u p1 := by
  obtain ⟨c1, c2, c3, c4, c5, c6, c7, c8, c9, c10, c11, c12, c13, c14⟩ := u
  unfold wpL_gen wpL_pk
  dsimp only
  refine ⟨fun _ => ?_, fun _ => ⟨fun _ => ?_, fun _ => ⟨fun _ => ?_, fun _ => ⟨fun _ => ?_, fun _ => ⟨fun _ => ?_, fun _ => ?_⟩⟩⟩⟩⟩
  all_goals
    refine mw_feed h (fun r u hu => ?_) _ _ _ _
    obtain ⟨d1, d2, d3, d4, d5, d6, d7, d8, d9, d10, d11, d12, d13, d14⟩ := u
    unfold wL_gen_152
    refine mw_gen hu (fun r u hu => ?_)
    obtain ⟨e1, e2, e3, e4, e5, e6, e7, e8, e9, e10, e11, e12, e13, e14⟩ := u
    exact hp _ hu
end MF
theorem mv_var {post : Int32 → Prop} (hp : ∀ r, post r) (x : Int32) : wpL_var post () x := by
  unfold wpL_var
  intro x1 _
  refine ⟨fun _ => ?_, fun _ => ⟨fun _ => ?_, fun _ => ⟨fun _ => ?_, fun _ => ⟨fun _ => ?_, fun _ => ⟨fun _ => ?_, fun _ => ⟨fun _ => ?_, fun _ => ⟨fun _ => ?_, fun _ => ?_⟩⟩⟩⟩⟩⟩⟩
  all_goals exact hp _
theorem mv_cell {post : Int32 → Prop} {L : Nat} {xs : Nat → Int32} (hp : ∀ r, post r) (j : Nat) (hj : j < 2 ^ 31) (hL : L < 2 ^ 31) : wpL_cell post L xs () (nI j) := by
  unfold wpL_cell
  exact pk_le L j (fun _ => hp _) (fun h => ⟨vp_in_nI h hL, hp _⟩)
end
section
/-! 30: the law's loops -/
section MG
variable {L : Nat} {xs : Nat → Int32} {kc ks : Nat}
theorem mv_565 {post : Int32 → Prop} {J : Int32 → Int32 → Int32 → Int32 → Int32 → Int32 → (Nat → Int32) → (Nat → Int32) → (Nat → Int32) → (Nat → Int32) → (Nat → Int32) → (Nat → Int32) → (Nat → Int32) → (Nat → Int32) → (Nat → Int32) → (Nat → Int32) → Prop} {x3 : Int32} (hJ : ∀ (mk : Nat) (M : Nat → Prop) (c1 c2 c3 c4 : Int32) (c5 c6 c7 c8 c9 c10 c11 c12 c13 c14 : Nat → Int32), vz_S mk M → li_T 4 lz_A lz_Z M (c1, c2, c3, c4, c5, c6, c7, c8, c9, c10, c11, c12, c13, c14) → J (nI mk) (x3 + 3) c1 c2 c3 c4 c5 c6 c7 c8 c9 c10 c11 c12 c13 c14) : ∀ (f k mk : Nat) (M : Nat → Prop) (c1 c2 c3 c4 : Int32) (c5 c6 c7 c8 c9 c10 c11 c12 c13 c14 : Nat → Int32), 8 < f + k → k ≤ 8 → vz_S mk M → li_T 4 lz_A lz_Z M (c1, c2, c3, c4, c5, c6, c7, c8, c9, c10, c11, c12, c13, c14) → wL_law_565 post L xs J x3 kc ks f (nI mk) (nI k) c1 c2 c3 c4 c5 c6 c7 c8 c9 c10 c11 c12 c13 c14 := by
  intro f
  induction f with
  | zero =>
    intro k mk M c1 c2 c3 c4 c5 c6 c7 c8 c9 c10 c11 c12 c13 c14 h1 h2
    omega
  | succ f ih =>
    intro k mk M c1 c2 c3 c4 c5 c6 c7 c8 c9 c10 c11 c12 c13 c14 h1 h2 hm h
    rw [wL_law_565]
    refine pk_le 8 k (fun hge => nm_e (hJ mk M c1 c2 c3 c4 c5 c6 c7 c8 c9 c10 c11 c12 c13 c14 hm h)) (fun hlt => ?_)
    refine mw_status h hlt (fun r hr1 hr2 => ?_)
    obtain ⟨hb, _⟩ := vz_S_bit hm (v := k) (by omega)
    have h597 : wL_law_597 post L xs J (wL_law_565 post L xs J x3 kc ks f) (nI mk) x3 (nI k) r kc ks c1 c2 c3 c4 c5 c6 c7 c8 c9 c10 c11 c12 c13 c14 := by
      unfold wL_law_597
      refine ⟨fun e => ?_, fun e => nm_r (nI_1 k) (ih (k + 1) mk M c1 c2 c3 c4 c5 c6 c7 c8 c9 c10 c11 c12 c13 c14 (by omega) (by omega) hm h)⟩
      refine nm_r (e' := nI (mk ||| 2 ^ k)) (by rw [vz_one (by omega), vz_or]) ?_
      refine mw_eval (hr2 e) hlt (Or.inr rfl) (fun r2 u2 hne hu2 => ?_)
      obtain ⟨d1, d2, d3, d4, d5, d6, d7, d8, d9, d10, d11, d12, d13, d14⟩ := u2
      exact br_f hne (nm_r (nI_1 k) (ih (k + 1) (mk ||| 2 ^ k) _ d1 d2 d3 d4 d5 d6 d7 d8 d9 d10 d11 d12 d13 d14 (by omega) (by omega) (vz_S_or hm (vz_S_one (by omega))) hu2))
    by_cases hM : M k
    · exact br_f (fun z => hb.mp z hM) (br_t (hr1 hM) h597)
    · exact br_t (hb.mpr hM) h597
theorem mv_315 (hL : L ≤ 260) : ∀ (f i mk : Nat) (M : Nat → Prop) (c1 c2 c3 c4 : Int32) (c5 c6 c7 c8 c9 c10 c11 c12 c13 c14 : Nat → Int32), L + 3 ≤ 3 * f + i → i ≤ L + 2 → vz_S mk M → li_T 4 lz_A lz_Z M (c1, c2, c3, c4, c5, c6, c7, c8, c9, c10, c11, c12, c13, c14) → wL_law_315 (fun r => r = 1) L xs kc ks f (nI mk) (nI i) c1 c2 c3 c4 c5 c6 c7 c8 c9 c10 c11 c12 c13 c14 := by
  intro f
  induction f with
  | zero =>
    intro i mk M c1 c2 c3 c4 c5 c6 c7 c8 c9 c10 c11 c12 c13 c14 h1 h2
    omega
  | succ f ih =>
    intro i mk M c1 c2 c3 c4 c5 c6 c7 c8 c9 c10 c11 c12 c13 c14 h1 h2 hm h
    rw [wL_law_315]
    refine pk_le L i (fun _ => rfl) (fun hlt => pk_le 600 i (fun _ => rfl) (fun _ => ?_))
    have h549 : ∀ (x5 x6 : Int32) (u : St1), li_T 4 lz_A lz_Z M u → wL_law_549 (fun r => r = 1) L xs (wL_law_315 (fun r => r = 1) L xs kc ks f) (nI mk) (nI i) x5 x6 kc ks u.1 u.2.1 u.2.2.1 u.2.2.2.1 u.2.2.2.2.1 u.2.2.2.2.2.1 u.2.2.2.2.2.2.1 u.2.2.2.2.2.2.2.1 u.2.2.2.2.2.2.2.2.1 u.2.2.2.2.2.2.2.2.2.1 u.2.2.2.2.2.2.2.2.2.2.1 u.2.2.2.2.2.2.2.2.2.2.2.1 u.2.2.2.2.2.2.2.2.2.2.2.2.1 u.2.2.2.2.2.2.2.2.2.2.2.2.2 := by
      intro x5 x6 u hu
      obtain ⟨d1, d2, d3, d4, d5, d6, d7, d8, d9, d10, d11, d12, d13, d14⟩ := u
      dsimp only
      unfold wL_law_549
      refine mv_setv hu (fun u hu => ?_) _ _
      obtain ⟨e1, e2, e3, e4, e5, e6, e7, e8, e9, e10, e11, e12, e13, e14⟩ := u
      refine ⟨9, mv_565 (fun mk2 M2 g1 g2 g3 g4 g5 g6 g7 g8 g9 g10 g11 g12 g13 g14 hm2 hu2 => ?_) 9 0 mk M e1 e2 e3 e4 e5 e6 e7 e8 e9 e10 e11 e12 e13 e14 (by omega) (by omega) hm hu⟩
      rw [show nI i + 3 = nI (i + 3) from nI_add i 3]
      exact ih (i + 3) mk2 M2 g1 g2 g3 g4 g5 g6 g7 g8 g9 g10 g11 g12 g13 g14 (by omega) (by omega) hm2 hu2
    have h370 : ∀ (x5 x6 : Int32), wL_law_370 (fun r => r = 1) L xs (wL_law_315 (fun r => r = 1) L xs kc ks f) (nI mk) (nI i) x5 x6 kc ks c1 c2 c3 c4 c5 c6 c7 c8 c9 c10 c11 c12 c13 c14 := by
      intro x5 x6
      unfold wL_law_370 wpL_nn
      refine ⟨by decide, mv_conj h (fun u hu => ?_) _⟩
      obtain ⟨d1, d2, d3, d4, d5, d6, d7, d8, d9, d10, d11, d12, d13, d14⟩ := u
      exact h549 x5 x6 _ hu
    have h430 : ∀ (x5 x6 : Int32), wL_law_430 (fun r => r = 1) L xs (wL_law_315 (fun r => r = 1) L xs kc ks f) (nI mk) (nI i) x5 x6 kc ks c1 c2 c3 c4 c5 c6 c7 c8 c9 c10 c11 c12 c13 c14 := by
      intro x5 x6
      unfold wL_law_430
      refine mv_var (fun r => mw_induct h (fun _ u hu => ?_) _) _
      obtain ⟨d1, d2, d3, d4, d5, d6, d7, d8, d9, d10, d11, d12, d13, d14⟩ := u
      refine mw_simp hu (fun _ u hu => ?_)
      obtain ⟨e1, e2, e3, e4, e5, e6, e7, e8, e9, e10, e11, e12, e13, e14⟩ := u
      refine mw_simp hu (fun _ u hu => ?_)
      obtain ⟨g1, g2, g3, g4, g5, g6, g7, g8, g9, g10, g11, g12, g13, g14⟩ := u
      refine mw_useHyp hu (fun _ u hu => ?_) _
      obtain ⟨j1, j2, j3, j4, j5, j6, j7, j8, j9, j10, j11, j12, j13, j14⟩ := u
      refine mw_useHyp hu (fun _ u hu => ?_) _
      obtain ⟨k1, k2, k3, k4, k5, k6, k7, k8, k9, k10, k11, k12, k13, k14⟩ := u
      exact h549 x5 x6 _ hu
    refine mv_cell (fun r0 => ?_) i (by omega) (by omega)
    unfold wpL_nn
    refine ⟨by decide, fun x4 _ => ?_⟩
    rw [nI_1 i, show nI i + 2 = nI (i + 2) from nI_add i 2]
    refine mv_cell (fun x5 => mv_cell (fun x6 => ?_) (i + 2) (by omega) (by omega)) (i + 1) (by omega) (by omega)
    refine ⟨fun _ => h370 x5 x6, fun _ => ⟨fun _ => h370 x5 x6, fun _ => ⟨fun _ => ?_, fun _ => ⟨fun _ => ?_, fun _ => ⟨fun _ => h430 x5 x6, fun _ => ⟨fun _ => h430 x5 x6, fun _ => ⟨fun _ => ?_, fun _ => ⟨fun _ => ?_, fun _ => ⟨fun _ => ?_, fun _ => ?_⟩⟩⟩⟩⟩⟩⟩⟩⟩
    · refine mv_var (fun r => mw_induct h (fun _ u hu => ?_) _) _
      obtain ⟨d1, d2, d3, d4, d5, d6, d7, d8, d9, d10, d11, d12, d13, d14⟩ := u
      exact h549 x5 x6 _ hu
    · refine mw_simp h (fun _ u hu => ?_)
      obtain ⟨d1, d2, d3, d4, d5, d6, d7, d8, d9, d10, d11, d12, d13, d14⟩ := u
      exact h549 x5 x6 _ hu
    · refine mw_useHyp h (fun _ u hu => ?_) _
      obtain ⟨d1, d2, d3, d4, d5, d6, d7, d8, d9, d10, d11, d12, d13, d14⟩ := u
      exact h549 x5 x6 _ hu
    · refine mw_useLemma h (fun _ u hu => ?_) _ _
      obtain ⟨d1, d2, d3, d4, d5, d6, d7, d8, d9, d10, d11, d12, d13, d14⟩ := u
      exact h549 x5 x6 _ hu
    · refine ⟨by decide, mv_gen h (fun u hu => ?_) _⟩
      obtain ⟨d1, d2, d3, d4, d5, d6, d7, d8, d9, d10, d11, d12, d13, d14⟩ := u
      exact h549 x5 x6 _ hu
    · refine mv_setv h (fun u hu => ?_) _ _
      obtain ⟨d1, d2, d3, d4, d5, d6, d7, d8, d9, d10, d11, d12, d13, d14⟩ := u
      exact h549 x5 x6 _ hu
end MG
end
section
/-! 31: the law -/
theorem i_vc (xs : Nat → Int32) (L : Nat) (hL : L ≤ 260) : wpL_law (fun r => r = 1) L xs := by
  unfold wpL_law wpL_pk
  refine ⟨10, 5173, by omega, by omega, mw_init (by omega) (by omega) (fun u hu => ?_)⟩
  obtain ⟨c1, c2, c3, c4, c5, c6, c7, c8, c9, c10, c11, c12, c13, c14⟩ := u
  refine mw_declare (n := 0) (a := 2) (z := 0) hu (by omega) (lz_SG (by omega)) 0 (by omega) (by omega) (by omega) (by decide +kernel) rfl (fun _ u hu => ?_)
  obtain ⟨c1, c2, c3, c4, c5, c6, c7, c8, c9, c10, c11, c12, c13, c14⟩ := u
  refine mw_declare (n := 1) (a := 2) (z := 1) hu (by omega) (lz_SG (by omega)) 3 (by omega) (by omega) (by omega) (by decide +kernel) rfl (fun _ u hu => ?_)
  obtain ⟨c1, c2, c3, c4, c5, c6, c7, c8, c9, c10, c11, c12, c13, c14⟩ := u
  refine mw_declare (n := 2) (a := 1) (z := 0) hu (by omega) (lz_SG (by omega)) 1 (by omega) (by omega) (by omega) (by decide +kernel) rfl (fun _ u hu => ?_)
  obtain ⟨c1, c2, c3, c4, c5, c6, c7, c8, c9, c10, c11, c12, c13, c14⟩ := u
  refine mw_declare (n := 3) (a := 1) (z := 1) hu (by omega) (lz_SG (by omega)) 1 (by omega) (by omega) (by omega) (by decide +kernel) rfl (fun _ u hu => ?_)
  obtain ⟨c1, c2, c3, c4, c5, c6, c7, c8, c9, c10, c11, c12, c13, c14⟩ := u
  have hu : li_S 4 lz_A lz_Z (fun _ => False) (fun m => m 0 = []) (c1, c2, c3, c4, c5, c6, c7, c8, c9, c10, c11, c12, c13, c14) := li_imp hu (fun m h => h 0 (by omega))
  refine mw_feedC (t := [70, 90, 98, 61, 98]) hu _ _ _ _ (by decide +kernel) (fun _ u hu => ?_)
  obtain ⟨c1, c2, c3, c4, c5, c6, c7, c8, c9, c10, c11, c12, c13, c14⟩ := u
  refine mw_define hu lz_t1 (fun _ u hu => ?_)
  obtain ⟨c1, c2, c3, c4, c5, c6, c7, c8, c9, c10, c11, c12, c13, c14⟩ := u
  refine mw_feedC (t := [70, 83, 97, 98, 61, 83, 70, 97, 98]) hu _ _ _ _ (by decide +kernel) (fun _ u hu => ?_)
  obtain ⟨c1, c2, c3, c4, c5, c6, c7, c8, c9, c10, c11, c12, c13, c14⟩ := u
  refine mw_define hu lz_t2 (fun _ u hu => ?_)
  obtain ⟨c1, c2, c3, c4, c5, c6, c7, c8, c9, c10, c11, c12, c13, c14⟩ := u
  refine mw_feedC (t := [71, 78, 113, 61, 113]) hu _ _ _ _ (by decide +kernel) (fun _ u hu => ?_)
  obtain ⟨c1, c2, c3, c4, c5, c6, c7, c8, c9, c10, c11, c12, c13, c14⟩ := u
  refine mw_define hu lz_t3 (fun _ u hu => ?_)
  obtain ⟨c1, c2, c3, c4, c5, c6, c7, c8, c9, c10, c11, c12, c13, c14⟩ := u
  refine mw_feedC (t := [71, 67, 97, 112, 113, 61, 67, 97, 71, 112, 113]) hu _ _ _ _ (by decide +kernel) (fun _ u hu => ?_)
  obtain ⟨c1, c2, c3, c4, c5, c6, c7, c8, c9, c10, c11, c12, c13, c14⟩ := u
  refine mw_define hu lz_t4 (fun _ u hu => ?_)
  obtain ⟨c1, c2, c3, c4, c5, c6, c7, c8, c9, c10, c11, c12, c13, c14⟩ := u
  refine mw_feedC (t := [72, 78, 61, 90]) hu _ _ _ _ (by decide +kernel) (fun _ u hu => ?_)
  obtain ⟨c1, c2, c3, c4, c5, c6, c7, c8, c9, c10, c11, c12, c13, c14⟩ := u
  refine mw_define hu lz_t5 (fun _ u hu => ?_)
  obtain ⟨c1, c2, c3, c4, c5, c6, c7, c8, c9, c10, c11, c12, c13, c14⟩ := u
  refine mw_feedC (t := [72, 67, 97, 112, 61, 83, 72, 112]) hu _ _ _ _ (by decide +kernel) (fun _ u hu => ?_)
  obtain ⟨c1, c2, c3, c4, c5, c6, c7, c8, c9, c10, c11, c12, c13, c14⟩ := u
  refine mw_define hu lz_t6 (fun _ u hu => ?_)
  obtain ⟨c1, c2, c3, c4, c5, c6, c7, c8, c9, c10, c11, c12, c13, c14⟩ := u
  refine mw_feedC (t := [73, 78, 61, 78]) hu _ _ _ _ (by decide +kernel) (fun _ u hu => ?_)
  obtain ⟨c1, c2, c3, c4, c5, c6, c7, c8, c9, c10, c11, c12, c13, c14⟩ := u
  refine mw_define hu lz_t7 (fun _ u hu => ?_)
  obtain ⟨c1, c2, c3, c4, c5, c6, c7, c8, c9, c10, c11, c12, c13, c14⟩ := u
  refine mw_feedC (t := [73, 67, 97, 112, 61, 71, 73, 112, 67, 97, 78]) hu _ _ _ _ (by decide +kernel) (fun _ u hu => ?_)
  obtain ⟨c1, c2, c3, c4, c5, c6, c7, c8, c9, c10, c11, c12, c13, c14⟩ := u
  refine mw_define hu lz_t8 (fun _ u hu => ?_)
  obtain ⟨c1, c2, c3, c4, c5, c6, c7, c8, c9, c10, c11, c12, c13, c14⟩ := u
  exact ⟨L + 1, mv_315 hL (L + 1) 0 0 (fun _ => False) c1 c2 c3 c4 c5 c6 c7 c8 c9 c10 c11 c12 c13 c14 (by omega) (by omega) vz_S_0 (li_imp hu (fun _ _ => trivial))⟩
end
