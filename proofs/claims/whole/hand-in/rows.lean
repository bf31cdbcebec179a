section
/-! 00: rows of kit/rows, pasted as they stand -/
theorem pk_us {f : Nat → Int32} {k : Nat} {x : Int32} : upd f k x k = x := if_pos rfl
theorem pk_un {f : Nat → Int32} {k j : Nat} {x : Int32} (h : j ≠ k) : upd f k x j = f j := if_neg h
theorem pk_sub {a b : Nat} (h : b ≤ a) : nI a - nI b = nI (a - b) := by
  obtain ⟨c, rfl⟩ : ∃ c, a = c + b := ⟨a - b, by omega⟩
  rw [← nI_add, Int32.add_sub_cancel, Nat.add_sub_cancel]
theorem pk_m1 (n : Nat) : nI (n + 1) + (-1) = nI n := by
  rw [← nI_1, Int32.add_assoc, show (1 : Int32) + (-1) = 0 from rfl, Int32.add_zero]
theorem pk_mul (a b : Nat) : nI a * nI b = nI (a * b) := (Int32.ofNat_mul a b).symm
theorem pk_sub_toInt {a b : Nat} (ha : a < 2 ^ 30) (hb : b < 2 ^ 30) : (nI a - nI b).toInt = (a : Int) - b := by
  rw [Int32.toInt_sub, nI_toInt (by omega), nI_toInt (by omega)]
  exact Int.bmod_eq_of_le (by omega) (by omega)
theorem pk_sneg {a b : Nat} (hb : b < 2 ^ 30) (h : a < b) : nI a - nI b < 0 := by
  rw [Int32.lt_iff_toInt_lt, pk_sub_toInt (by omega) hb, show (0 : Int32).toInt = 0 from by decide]
  omega
theorem pk_ix (x : Int32) {n : Nat} (hn : n < 2 ^ 31) : x < 0 ∨ nI n ≤ x ∨ ∃ j : Nat, j < n ∧ x = nI j := by
  by_cases h : x < 0
  · exact Or.inl h
  · obtain ⟨j, hj, rfl⟩ := nI_of h
    by_cases h2 : j < n
    · exact Or.inr (Or.inr ⟨j, h2, rfl⟩)
    · exact Or.inr (Or.inl (nI_le (by omega) hj))
theorem pk_le {x y : Int32} {A B : Prop} (a b : Nat) (f : a ≤ b → A) (g : b < a → B) (hx : x = nI a := by rfl) (hy : y = nI b := by rfl) (ha : a < 2 ^ 31 := by omega) (hb : b < 2 ^ 31 := by omega) : (x ≤ y → A) ∧ (¬ x ≤ y → B) := by
  subst hx hy
  rw [nI_leI ha hb]
  exact ⟨f, fun z => g (by omega)⟩
theorem pk_lt {x y : Int32} {A B : Prop} (a b : Nat) (f : a < b → A) (g : b ≤ a → B) (hx : x = nI a := by rfl) (hy : y = nI b := by rfl) (ha : a < 2 ^ 31 := by omega) (hb : b < 2 ^ 31 := by omega) : (x < y → A) ∧ (¬ x < y → B) := by
  subst hx hy
  rw [nI_ltI ha hb]
  exact ⟨f, fun z => g (by omega)⟩
theorem pk_eq {x y : Int32} {A B : Prop} (a b : Nat) (f : a = b → A) (g : a ≠ b → B) (hx : x = nI a := by rfl) (hy : y = nI b := by rfl) (ha : a < 2 ^ 31 := by omega) (hb : b < 2 ^ 31 := by omega) : (x = y → A) ∧ (¬ x = y → B) := by
  subst hx hy
  rw [nI_eq ha hb]
  exact ⟨f, g⟩
theorem pk_in {x : Int32} (n N : Nat) (h : n < N) (hx : x = nI n := by rfl) (hN : N < 2 ^ 31 := by omega) : vp_in x N := by
  subst hx
  exact vp_in_nI h hN
theorem pk_cl {x : Int32} (n : Nat) (hx : x = nI n := by rfl) (h : n < 2 ^ 31 := by omega) : x.toNatClampNeg = n := by
  subst hx
  exact nI_clamp h
theorem pk_tn {n : Nat} (h : n < 2 ^ 32) : (nI n).toBitVec.toNat = n := Nat.mod_eq_of_lt h
theorem pk_and (x : Int32) {m : Int32} (k : Nat) (hm : m.toBitVec.toNat = 2 ^ k - 1) : x &&& m = nI (x.toBitVec.toNat % 2 ^ k) := by
  apply Int32.toBitVec_inj.mp
  apply BitVec.eq_of_toNat_eq
  rw [Int32.toBitVec_and, BitVec.toNat_and, hm, Nat.and_two_pow_sub_one_eq_mod]
  show _ = (BitVec.ofNat 32 _).toNat
  rw [BitVec.toNat_ofNat]
  exact (Nat.mod_eq_of_lt (Nat.lt_of_le_of_lt (Nat.mod_le _ _) x.toBitVec.isLt)).symm
theorem pk_andN {n : Nat} (h : n < 2 ^ 32) {m : Int32} (k : Nat) (hm : m.toBitVec.toNat = 2 ^ k - 1) : nI n &&& m = nI (n % 2 ^ k) := by
  rw [pk_and _ k hm, pk_tn h]
theorem pk_andE (x : Int32) {m : Int32} (k : Nat) (hm : m.toBitVec.toNat = 2 ^ k - 1) : ∃ j : Nat, j < 2 ^ k ∧ x &&& m = nI j := ⟨_, Nat.mod_lt _ (Nat.two_pow_pos k), pk_and x k hm⟩
theorem pk_andIn (x : Int32) {m : Int32} (k : Nat) (hm : m.toBitVec.toNat = 2 ^ k - 1) (hk : k ≤ 30) : vp_in (x &&& m) (2 ^ k) := by
  obtain ⟨j, hj, e⟩ := pk_andE x k hm
  rw [e]
  exact vp_in_nI hj (Nat.lt_of_le_of_lt (Nat.pow_le_pow_right (by decide) hk) (by decide))
theorem pk_shl (a s : Int32) (k : Nat) (hs : (s.toBitVec.smod 32).toNat = k) : (a <<< s).toBitVec.toNat = a.toBitVec.toNat * 2 ^ k % 2 ^ 32 := by
  show (a.toBitVec <<< (s.toBitVec.smod 32).toNat).toNat = _
  rw [hs, BitVec.toNat_shiftLeft, Nat.shiftLeft_eq]
theorem pk_shlN {n : Nat} (s : Int32) (k : Nat) (hs : (s.toBitVec.smod 32).toNat = k) (h : n * 2 ^ k < 2 ^ 32) : nI n <<< s = nI (n * 2 ^ k) := by
  apply Int32.toBitVec_inj.mp
  apply BitVec.eq_of_toNat_eq
  have hn : n < 2 ^ 32 := Nat.lt_of_le_of_lt (Nat.le_mul_of_pos_right n (Nat.two_pow_pos k)) h
  rw [pk_shl _ _ k hs, pk_tn hn, pk_tn h, Nat.mod_eq_of_lt h]
theorem pk_shr (a s : Int32) (k : Nat) (hs : (s.toBitVec.smod 32).toNat = k) : (a >>> s).toInt = a.toInt >>> k := by
  show (a.toBitVec.sshiftRight (s.toBitVec.smod 32).toNat).toInt = _
  rw [hs, BitVec.toInt_sshiftRight]
  rfl
theorem pk_shrN {n : Nat} (h : n < 2 ^ 31) (s : Int32) (k : Nat) (hs : (s.toBitVec.smod 32).toNat = k) : nI n >>> s = nI (n / 2 ^ k) := by
  apply Int32.toInt_inj.mp
  have h2 : n / 2 ^ k ≤ n := Nat.div_le_self _ _
  rw [pk_shr _ _ k hs, nI_toInt h, nI_toInt (by omega), Int.shiftRight_eq_div_pow]
  rfl
theorem pk_charN {q : Nat} (hq : q < 65536) : narrow .char (.int (nI q)) = .int (nI q) ∧ fits .char (.int (nI q)) = true := by
  constructor
  · have e : (nI q).toUInt32.toUInt16.toUInt32.toInt32 = nI q := by
      apply Int32.toBitVec_inj.mp
      apply BitVec.eq_of_toNat_eq
      show (nI q).toUInt32.toUInt16.toUInt32.toNat = q % 2 ^ 32
      rw [UInt16.toNat_toUInt32, UInt32.toNat_toUInt16, show (nI q).toUInt32.toNat = q % 2 ^ 32 from rfl]
      omega
    exact congrArg Value.int e
  · have a : (0 : Int32) ≤ nI q := nI_pos' (by omega)
    have b : nI q ≤ 65535 := nI_le (b := 65535) (by omega) (by decide)
    show (decide ((0 : Int32) ≤ nI q) && decide (nI q ≤ 65535)) = true
    rw [decide_eq_true a, decide_eq_true b]
    rfl
theorem pk_char (x : Int32) : (x.toUInt32 % 65536).toInt32 = nI (x.toBitVec.toNat % 65536) := by
  apply Int32.toBitVec_inj.mp
  apply BitVec.eq_of_toNat_eq
  rw [pk_tn (by omega)]
  show (x.toUInt32 % 65536).toNat = _
  rw [UInt32.toNat_mod]
  rfl
theorem pk_nc (x : Int32) : narrow .char (.int (x.toUInt32 % 65536).toInt32) = .int (x.toUInt32 % 65536).toInt32 := by
  rw [pk_char]
  exact (pk_charN (Nat.mod_lt _ (by decide))).1
theorem pk_fc (x : Int32) : fits .char (.int (x.toUInt32 % 65536).toInt32) = true := by
  rw [pk_char]
  exact (pk_charN (Nat.mod_lt _ (by decide))).2
theorem pk_vc (z : Int32) : vp_nar .char (z.toUInt32 % 65536).toInt32 = (z.toUInt32 % 65536).toInt32 := Value.int.inj (pk_nc z)
theorem pk_lT {n : Nat} (h : n < 2 ^ 63) : (lN n).toInt = (n : Int) := lg_ofNat_toInt h
theorem pk_lLT {a b : Nat} (ha : a < 2 ^ 63) (hb : b < 2 ^ 63) : lN a < lN b ↔ a < b := by
  rw [Int64.lt_iff_toInt_lt, pk_lT ha, pk_lT hb]; omega
theorem pk_lLE {a b : Nat} (ha : a < 2 ^ 63) (hb : b < 2 ^ 63) : lN a ≤ lN b ↔ a ≤ b := by
  rw [Int64.le_iff_toInt_le, pk_lT ha, pk_lT hb]; omega
theorem pk_lEQ {a b : Nat} (ha : a < 2 ^ 63) (hb : b < 2 ^ 63) : lN a = lN b ↔ a = b := by
  rw [← Int64.toInt_inj, pk_lT ha, pk_lT hb]; omega
theorem pk_lOf {x : Int64} (h : ¬ x < 0) : ∃ k : Nat, k < 2 ^ 63 ∧ x = lN k := by
  rw [Int64.lt_iff_toInt_lt] at h
  have h0 : (0 : Int64).toInt = 0 := by decide
  have hx := Int64.toInt_lt x
  refine ⟨x.toInt.toNat, by omega, Int64.toInt_inj.mp ?_⟩
  rw [pk_lT (by omega)]
  omega
theorem pk_loop {σ : Type} (W : Nat → Nat → σ → Prop) (I : Nat → σ → Prop) (e i0 : Nat) (s : σ) (hi : i0 ≤ e) (h0 : I i0 s) (hx : ∀ n s, I e s → W (n + 1) e s)
    (hs : ∀ n i s, i < e → I i s → (∀ s', I (i + 1) s' → W n (i + 1) s') → W (n + 1) i s) : ∃ n, W n i0 s :=
  ⟨e + 1, loop_i W I e hx hs (e + 1) i0 s hi (by omega) h0⟩
theorem pk_loopD {σ : Type} (W : Nat → Nat → σ → Prop) (I : Nat → σ → Prop) (hx : ∀ n s, I 0 s → W (n + 1) 0 s)
    (hs : ∀ n i s, I (i + 1) s → (∀ s', I i s' → W n i s') → W (n + 1) (i + 1) s) : ∀ (e : Nat) (s : σ), I e s → W (e + 1) e s := by
  intro e
  induction e with
  | zero => exact fun s h => hx 0 s h
  | succ e ih => exact fun s h => hs (e + 1) e s h (fun s' h' => ih s' h')
theorem sb_cl0 : (0 : Int32).toNatClampNeg = 0 := by decide
theorem sb_m1 {p : Nat} (h : 0 < p) : nI p + (-1) = nI (p - 1) := by
  obtain ⟨q, rfl⟩ : ∃ q, p = q + 1 := ⟨p - 1, by omega⟩
  exact pk_m1 q
theorem nx_and (a b : Nat) : nI a &&& nI b = nI (a &&& b) := by
  apply Int32.toBitVec_inj.1
  show BitVec.ofNat 32 a &&& BitVec.ofNat 32 b = BitVec.ofNat 32 (a &&& b)
  apply BitVec.eq_of_getLsbD_eq
  intro i hi
  simp [hi]
theorem wb_tb (n : Nat) : (lN n).toBitVec = BitVec.ofNat 64 n := rfl
theorem wb_inj {a b : Int64} (h : a.toBitVec = b.toBitVec) : a = b := Int64.toBitVec_inj.mp h
theorem wb_tn {n : Nat} (h : n < 2 ^ 64) : (lN n).toBitVec.toNat = n := by rw [wb_tb, BitVec.toNat_ofNat, Nat.mod_eq_of_lt h]
theorem wb_c : ∀ k, k < 64 → ((nI k).toInt64 &&& 63) = lN k := by decide +kernel
theorem wb_sm : ∀ k, k < 64 → (BitVec.ofNat 64 k).smod 64 = BitVec.ofNat 64 k := by decide +kernel
theorem wb_pw {a b : Nat} (h : a ≤ b) : 2 ^ b = 2 ^ a * 2 ^ (b - a) := by rw [← Nat.pow_add]; congr 1; omega
theorem wb_lt2 {a b : Nat} (h : a < b) : 2 ^ a < 2 ^ b := Nat.pow_lt_pow_right (by decide) h
theorem wb_shl (n : Nat) {k : Nat} (hk : k < 64) : lN n <<< ((nI k).toInt64 &&& 63) = lN (n * 2 ^ k) := by
  rw [wb_c k hk]
  apply wb_inj
  rw [Int64.toBitVec_shiftLeft, wb_tb, wb_tb, wb_tb, wb_sm k hk]
  apply BitVec.eq_of_toNat_eq
  rw [BitVec.shiftLeft_eq', BitVec.toNat_shiftLeft, BitVec.toNat_ofNat, BitVec.toNat_ofNat, BitVec.toNat_ofNat, Nat.mod_eq_of_lt (show k < 2 ^ 64 by omega), Nat.shiftLeft_eq, Nat.mul_mod, Nat.mod_mod, ← Nat.mul_mod]
theorem wb_and {a b : Nat} (ha : a < 2 ^ 64) (hb : b < 2 ^ 64) : lN a &&& lN b = lN (a &&& b) := by
  apply wb_inj
  rw [Int64.toBitVec_and, wb_tb, wb_tb, wb_tb]
  apply BitVec.eq_of_toNat_eq
  rw [BitVec.toNat_and, BitVec.toNat_ofNat, BitVec.toNat_ofNat, BitVec.toNat_ofNat, Nat.mod_eq_of_lt ha, Nat.mod_eq_of_lt hb, Nat.mod_eq_of_lt (Nat.and_lt_two_pow _ hb)]
theorem wb_or {a b : Nat} (ha : a < 2 ^ 64) (hb : b < 2 ^ 64) : lN a ||| lN b = lN (a ||| b) := by
  apply wb_inj
  rw [Int64.toBitVec_or, wb_tb, wb_tb, wb_tb]
  apply BitVec.eq_of_toNat_eq
  rw [BitVec.toNat_or, BitVec.toNat_ofNat, BitVec.toNat_ofNat, BitVec.toNat_ofNat, Nat.mod_eq_of_lt ha, Nat.mod_eq_of_lt hb, Nat.mod_eq_of_lt (Nat.or_lt_two_pow ha hb)]
theorem wb_mask {n k : Nat} (hn : n < 2 ^ 64) (hk : k < 64) : lN n &&& lN (2 ^ k - 1) = lN (n % 2 ^ k) := by
  rw [wb_and hn (by have := wb_lt2 hk; omega), Nat.and_two_pow_sub_one_eq_mod]
theorem u_tn {n : Nat} (h : n < 2 ^ 64) : (UInt64.ofNat n).toNat = n := Nat.mod_eq_of_lt h
theorem g_or {k p a b : Nat} (hp : 2 ^ k = p) (ha : a < p) (h : b * p + a < 2 ^ 64) : lN (b * p) ||| lN a = lN (b * p + a) := by
  subst hp
  have h1 : b * 2 ^ k ||| a = b * 2 ^ k + a := by rw [← Nat.shiftLeft_eq, Nat.shiftLeft_add_eq_or_of_lt ha]
  have h3 : UInt64.ofNat (b * 2 ^ k) ||| UInt64.ofNat a = UInt64.ofNat (b * 2 ^ k + a) := UInt64.toNat_inj.mp (by rw [UInt64.toNat_or, u_tn (by omega), u_tn (by omega), u_tn h, h1])
  have h2 := congrArg UInt64.toInt64 h3
  exact h2
theorem pf_lI {a : Nat} (h : a < 2 ^ 63) : (lN a).toInt = (a : Int) := lg_ofNat_toInt h
theorem pf_shr {a d : Nat} {D : Int64} (hD : (D.toBitVec.smod 64).toNat = d) (h : a < 2 ^ 62) : lN a >>> D = lN (a / 2 ^ d) := by
  have hd : a / 2 ^ d ≤ a := Nat.div_le_self _ _
  apply Int64.toInt_inj.mp
  have e : (lN a >>> D).toInt = (lN a).toInt >>> d := by
    rw [← hD]
    exact BitVec.toInt_sshiftRight ..
  rw [e, Int.shiftRight_eq_div_pow, pf_lI (by omega), pf_lI (by omega)]
  rfl
end
section
/-! 01: texts as lists of codes; terms by a stack of sorts; ends of subterms; matching, filled patterns, REPLACE, NORMALIZE: pure -/
abbrev tm_G : Type := Nat → Option (List Nat × Nat)
def tm_at (w : List Nat) (i : Nat) : Nat := w.getD i 0
theorem tm_at_lt {w : List Nat} {i : Nat} (h : i < w.length) : tm_at w i = w[i] := by
  unfold tm_at
  rw [List.getD_eq_getElem?_getD, List.getElem?_eq_getElem h]
  rfl
theorem tm_at_ge {w : List Nat} {i : Nat} (h : w.length ≤ i) : tm_at w i = 0 := by
  unfold tm_at
  rw [List.getD_eq_getElem?_getD, List.getElem?_eq_none h]
  rfl
theorem tm_drop_cons {w : List Nat} {i : Nat} (h : i < w.length) : w.drop i = tm_at w i :: w.drop (i + 1) := by
  rw [tm_at_lt h]
  exact List.drop_eq_getElem_cons h
theorem tm_at_drop (w : List Nat) (i j : Nat) : tm_at (w.drop i) j = tm_at w (i + j) := by
  unfold tm_at
  rw [List.getD_eq_getElem?_getD, List.getD_eq_getElem?_getD, List.getElem?_drop]
theorem tm_at_take {w : List Nat} {n i : Nat} (h : i < n) : tm_at (w.take n) i = tm_at w i := by
  unfold tm_at
  rw [List.getD_eq_getElem?_getD, List.getD_eq_getElem?_getD, List.getElem?_take_of_lt h]
theorem tm_at_app_l {u w : List Nat} {i : Nat} (h : i < u.length) : tm_at (u ++ w) i = tm_at u i := by
  unfold tm_at
  rw [List.getD_eq_getElem?_getD, List.getD_eq_getElem?_getD, List.getElem?_append_left h]
theorem tm_at_app_r {u w : List Nat} {i : Nat} (h : u.length ≤ i) : tm_at (u ++ w) i = tm_at w (i - u.length) := by
  unfold tm_at
  rw [List.getD_eq_getElem?_getD, List.getD_eq_getElem?_getD, List.getElem?_append_right h]
theorem tm_ext {u w : List Nat} (hl : u.length = w.length) (h : ∀ i, i < u.length → tm_at u i = tm_at w i) : u = w := by
  apply List.ext_getElem hl
  intro i h1 h2
  have := h i h1
  rwa [tm_at_lt h1, tm_at_lt h2] at this
theorem tm_at_mem {w : List Nat} {i : Nat} (h : i < w.length) : tm_at w i ∈ w := by
  rw [tm_at_lt h]
  exact List.getElem_mem h
theorem tm_mem_at {w : List Nat} {c : Nat} (h : c ∈ w) : ∃ i, i < w.length ∧ tm_at w i = c := by
  obtain ⟨i, hi, e⟩ := List.getElem_of_mem h
  exact ⟨i, hi, by rw [tm_at_lt hi]; exact e⟩
/-! arity, well-formed sequences, ends -/
def tm_ar (g : tm_G) (c : Nat) : Nat := match g c with
  | some p => p.1.length
  | none => 0
theorem tm_ar_some {g : tm_G} {c : Nat} {a : List Nat} {s : Nat} (h : g c = some (a, s)) : tm_ar g c = a.length := by
  unfold tm_ar
  rw [h]
def tm_P (g : tm_G) : List Nat → List Nat → Prop
  | S, [] => S = []
  | S, c :: w => ∃ a s S', g c = some (a, s) ∧ S = s :: S' ∧ tm_P g (a ++ S') w
def tm_en (g : tm_G) : Nat → List Nat → Nat
  | _, [] => 0
  | k, c :: w => if k = 0 then 0 else 1 + tm_en g (tm_ar g c + (k - 1)) w
theorem tm_en_nil (g : tm_G) (k : Nat) : tm_en g k [] = 0 := by simp [tm_en]
theorem tm_en_0 (g : tm_G) (w : List Nat) : tm_en g 0 w = 0 := by
  cases w <;> simp [tm_en]
theorem tm_en_s (g : tm_G) (k c : Nat) (w : List Nat) : tm_en g (k + 1) (c :: w) = 1 + tm_en g (tm_ar g c + k) w := by
  simp [tm_en]
theorem tm_en_le (g : tm_G) (w : List Nat) : ∀ k, tm_en g k w ≤ w.length := by
  induction w with
  | nil => intro k; rw [tm_en_nil]; exact Nat.zero_le _
  | cons c w ih =>
    intro k
    cases k with
    | zero => rw [tm_en_0]; exact Nat.zero_le _
    | succ k =>
      rw [tm_en_s, List.length_cons]
      have := ih (tm_ar g c + k)
      omega
theorem tm_en_add (g : tm_G) (w : List Nat) : ∀ a b, tm_en g (a + b) w = tm_en g a w + tm_en g b (w.drop (tm_en g a w)) := by
  induction w with
  | nil => intro a b; rw [tm_en_nil, tm_en_nil, List.drop_nil, tm_en_nil]
  | cons c w ih =>
    intro a b
    cases a with
    | zero => rw [tm_en_0, Nat.zero_add, Nat.zero_add, List.drop_zero]
    | succ a =>
      rw [show a + 1 + b = (a + b) + 1 by omega, tm_en_s, tm_en_s, ← Nat.add_assoc, ih (tm_ar g c + a) b,
        Nat.add_comm 1 (tm_en g (tm_ar g c + a) w), List.drop_succ_cons]
      omega
theorem tm_P_en {g : tm_G} (w : List Nat) : ∀ S1 S2, tm_P g (S1 ++ S2) w → tm_P g S1 (w.take (tm_en g S1.length w)) ∧ tm_P g S2 (w.drop (tm_en g S1.length w)) := by
  induction w with
  | nil =>
    intro S1 S2 h
    have h' : S1 ++ S2 = [] := h
    obtain ⟨rfl, rfl⟩ := List.append_eq_nil_iff.mp h'
    exact ⟨rfl, rfl⟩
  | cons c w ih =>
    intro S1 S2 h
    cases S1 with
    | nil =>
      rw [List.length_nil, tm_en_0]
      exact ⟨rfl, h⟩
    | cons s1 S1 =>
      obtain ⟨a, s, S', hg, hS, hP⟩ := h
      rw [List.cons_append] at hS
      obtain ⟨rfl, rfl⟩ := List.cons.inj hS
      rw [← List.append_assoc] at hP
      obtain ⟨h1, h2⟩ := ih (a ++ S1) S2 hP
      rw [List.length_append] at h1 h2
      rw [List.length_cons, tm_en_s, tm_ar_some hg, Nat.add_comm 1, List.take_succ_cons, List.drop_succ_cons]
      exact ⟨⟨a, s1, S1, hg, rfl, h1⟩, h2⟩
theorem tm_P_app {g : tm_G} {S2 v : List Nat} (hv : tm_P g S2 v) (u : List Nat) : ∀ S1, tm_P g S1 u → tm_P g (S1 ++ S2) (u ++ v) := by
  induction u with
  | nil =>
    intro S1 h
    have h' : S1 = [] := h
    subst h'
    exact hv
  | cons c u ih =>
    intro S1 h
    obtain ⟨a, s, S', hg, rfl, hP⟩ := h
    refine ⟨a, s, S' ++ S2, hg, rfl, ?_⟩
    rw [← List.append_assoc]
    exact ih _ hP
theorem tm_P_len {g : tm_G} (v : List Nat) (u : List Nat) : ∀ S1, tm_P g S1 u → tm_en g S1.length (u ++ v) = u.length := by
  induction u with
  | nil =>
    intro S1 h
    have h' : S1 = [] := h
    subst h'
    exact tm_en_0 g _
  | cons c u ih =>
    intro S1 h
    obtain ⟨a, s, S', hg, rfl, hP⟩ := h
    have := ih _ hP
    rw [List.length_append] at this
    rw [List.length_cons, List.cons_append, tm_en_s, tm_ar_some hg, this, List.length_cons]
    omega
theorem tm_P_len' {g : tm_G} {u S1 : List Nat} (h : tm_P g S1 u) : tm_en g S1.length u = u.length := by
  have := tm_P_len [] u S1 h
  rwa [List.append_nil] at this
theorem tm_P_uniq {g : tm_G} (u : List Nat) : ∀ S T, tm_P g S u → tm_P g T u → S = T := by
  induction u with
  | nil =>
    intro S T h h2
    have h' : S = [] := h
    have h2' : T = [] := h2
    rw [h', h2']
  | cons c u ih =>
    intro S T h h2
    obtain ⟨a, s, S', hg, rfl, hP⟩ := h
    obtain ⟨a2, s2, S2', hg2, rfl, hP2⟩ := h2
    rw [hg] at hg2
    obtain ⟨rfl, rfl⟩ := Prod.mk.inj (Option.some.inj hg2)
    have := ih _ _ hP hP2
    rw [List.append_cancel_left this]
theorem tm_P_drop {g : tm_G} (w : List Nat) : ∀ S, tm_P g S w → ∀ i, ∃ S', tm_P g S' (w.drop i) := by
  induction w with
  | nil => intro S h i; rw [List.drop_nil]; exact ⟨S, h⟩
  | cons c w ih =>
    intro S h i
    cases i with
    | zero => exact ⟨S, h⟩
    | succ i =>
      obtain ⟨a, s, S', hg, rfl, hP⟩ := h
      exact ih _ hP i
theorem tm_P_cons {g : tm_G} {S w : List Nat} {c : Nat} (h : tm_P g S (c :: w)) : ∃ a s S', g c = some (a, s) ∧ S = s :: S' ∧ tm_P g (a ++ S') w := h
theorem tm_P_suf {g : tm_G} {w S : List Nat} (h : tm_P g S w) {i : Nat} (hi : i < w.length) : ∃ a s S', g (tm_at w i) = some (a, s) ∧ tm_P g (s :: S') (w.drop i) ∧ tm_P g (a ++ S') (w.drop (i + 1)) := by
  obtain ⟨S1, h1⟩ := tm_P_drop w S h i
  have h2 := h1
  rw [tm_drop_cons hi] at h2
  obtain ⟨a, s, S', hg, rfl, hP⟩ := h2
  exact ⟨a, s, S', hg, h1, hP⟩
theorem tm_P_sym {g : tm_G} {w S : List Nat} (h : tm_P g S w) {c : Nat} (hc : c ∈ w) : ∃ a s, g c = some (a, s) := by
  obtain ⟨i, hi, rfl⟩ := tm_mem_at hc
  obtain ⟨a, s, S', hg, _⟩ := tm_P_suf h hi
  exact ⟨a, s, hg⟩
theorem tm_P_mono {g g' : tm_G} (hm : ∀ c p, g c = some p → g' c = some p) (w : List Nat) : ∀ S, tm_P g S w → tm_P g' S w := by
  induction w with
  | nil => exact fun S h => h
  | cons c w ih =>
    intro S h
    obtain ⟨a, s, S', hg, rfl, hP⟩ := h
    exact ⟨a, s, S', hm _ _ hg, rfl, ih _ hP⟩
theorem tm_P_ne {g : tm_G} {s : Nat} {S w : List Nat} (h : tm_P g (s :: S) w) : 0 < w.length := by
  cases w with
  | nil => exact absurd h (fun z => nomatch (show s :: S = [] from z))
  | cons c w => exact Nat.succ_pos _
def tm_e (g : tm_G) (w : List Nat) (q : Nat) : Nat := q + tm_en g 1 (w.drop q)
def tm_sub (g : tm_G) (w : List Nat) (q : Nat) : List Nat := (w.drop q).take (tm_en g 1 (w.drop q))
theorem tm_e_rec (g : tm_G) {w : List Nat} {q : Nat} (h : q < w.length) : tm_e g w q = (q + 1) + tm_en g (tm_ar g (tm_at w q)) (w.drop (q + 1)) := by
  unfold tm_e
  rw [tm_drop_cons h, show (1 : Nat) = 0 + 1 from rfl, tm_en_s, Nat.add_zero]
  omega
theorem tm_e_gt (g : tm_G) {w : List Nat} {q : Nat} (h : q < w.length) : q < tm_e g w q := by
  rw [tm_e_rec g h]
  omega
theorem tm_e_le (g : tm_G) {w : List Nat} {q : Nat} (h : q ≤ w.length) : tm_e g w q ≤ w.length := by
  unfold tm_e
  have := tm_en_le g (w.drop q) 1
  rw [List.length_drop] at this
  omega
theorem tm_e_ge (g : tm_G) {w : List Nat} {q : Nat} (h : w.length ≤ q) : tm_e g w q = q := by
  unfold tm_e
  rw [List.drop_eq_nil_of_le h, tm_en_nil, Nat.add_zero]
theorem tm_e_iter (g : tm_G) (w : List Nat) (q j : Nat) : q + tm_en g (j + 1) (w.drop q) = tm_e g w (q + tm_en g j (w.drop q)) := by
  unfold tm_e
  rw [tm_en_add g (w.drop q) j 1, List.drop_drop]
  omega
theorem tm_sub_len (g : tm_G) {w : List Nat} {q : Nat} (h : q ≤ w.length) : (tm_sub g w q).length = tm_e g w q - q := by
  unfold tm_sub tm_e
  have := tm_en_le g (w.drop q) 1
  rw [List.length_take]
  omega
theorem tm_sub_at (g : tm_G) {w : List Nat} {q i : Nat} (h : q + i < tm_e g w q) : tm_at (tm_sub g w q) i = tm_at w (q + i) := by
  unfold tm_e at h
  unfold tm_sub
  rw [tm_at_take (by omega), tm_at_drop]
theorem tm_sub_mem {g : tm_G} {w : List Nat} {q c : Nat} (h : c ∈ tm_sub g w q) : c ∈ w := List.mem_of_mem_drop (List.mem_of_mem_take h)
theorem tm_sub_P {g : tm_G} {w : List Nat} {q s : Nat} {S : List Nat} (h : tm_P g (s :: S) (w.drop q)) : tm_P g [s] (tm_sub g w q) ∧ tm_P g S (w.drop (tm_e g w q)) := by
  obtain ⟨h1, h2⟩ := tm_P_en (w.drop q) [s] S h
  rw [List.drop_drop] at h2
  exact ⟨h1, h2⟩
end
section
/-! 02: matching, filled patterns, REPLACE: pure -/
def tm_vn (c : Nat) : Option Nat := if 97 ≤ c ∧ c ≤ 104 then some (c - 97) else if 112 ≤ c ∧ c ≤ 119 then some (c - 104) else none
def tm_vc (v : Nat) : Nat := if v < 8 then 97 + v else 104 + v
theorem tm_vn_ch {c v : Nat} (h : tm_vn c = some v) : c = tm_vc v ∧ v < 16 := by
  unfold tm_vn at h
  split at h
  · have := Option.some.inj h
    unfold tm_vc
    rw [if_pos (by omega)]
    omega
  · split at h
    · have := Option.some.inj h
      unfold tm_vc
      rw [if_neg (by omega)]
      omega
    · cases h
theorem tm_vn_vc {v : Nat} (h : v < 16) : tm_vn (tm_vc v) = some v := by
  unfold tm_vn tm_vc
  by_cases h8 : v < 8
  · rw [if_pos h8, if_pos (by omega)]
    exact congrArg some (by omega)
  · rw [if_neg h8, if_neg (by omega), if_pos (by omega)]
    exact congrArg some (by omega)
theorem tm_vn_inj {c d v : Nat} (h : tm_vn c = some v) (h2 : tm_vn d = some v) : c = d := by
  rw [(tm_vn_ch h).1, (tm_vn_ch h2).1]
def tm_bu (b : Nat → Option Nat) (v q : Nat) : Nat → Option Nat := fun i => if i = v then some q else b i
def tm_mt (g : tm_G) (pat : Bool) (w : List Nat) : List Nat → Nat → (Nat → Option Nat) → Option (Nat × (Nat → Option Nat))
  | [], q, b => some (q, b)
  | c :: p, q, b =>
    if q < w.length then
      match (if pat = true then tm_vn c else none) with
      | some v => match b v with
        | none => tm_mt g pat w p (tm_e g w q) (tm_bu b v q)
        | some q0 => if tm_sub g w q0 = tm_sub g w q then tm_mt g pat w p (tm_e g w q) b else none
      | none => if tm_at w q = c then tm_mt g pat w p (q + 1) b else none
    else none
theorem tm_mt_nil {g : tm_G} {pat : Bool} {w : List Nat} {q : Nat} {b : Nat → Option Nat} : tm_mt g pat w [] q b = some (q, b) := by simp [tm_mt]
theorem tm_mt_out {g : tm_G} {pat : Bool} {w p : List Nat} {c q : Nat} {b : Nat → Option Nat} (h : w.length ≤ q) : tm_mt g pat w (c :: p) q b = none := by
  rw [tm_mt, if_neg (by omega)]
theorem tm_mt_new {g : tm_G} {w p : List Nat} {c q v : Nat} {b : Nat → Option Nat} (hq : q < w.length) (hv : tm_vn c = some v) (hb : b v = none) : tm_mt g true w (c :: p) q b = tm_mt g true w p (tm_e g w q) (tm_bu b v q) := by
  rw [tm_mt, if_pos hq, if_pos rfl, hv]
  dsimp only
  rw [hb]
theorem tm_mt_old {g : tm_G} {w p : List Nat} {c q v q0 : Nat} {b : Nat → Option Nat} (hq : q < w.length) (hv : tm_vn c = some v) (hb : b v = some q0) : tm_mt g true w (c :: p) q b = if tm_sub g w q0 = tm_sub g w q then tm_mt g true w p (tm_e g w q) b else none := by
  rw [tm_mt, if_pos hq, if_pos rfl, hv]
  dsimp only
  rw [hb]
theorem tm_mt_sel {pat : Bool} {c : Nat} (h : pat = false ∨ tm_vn c = none) : (if pat = true then tm_vn c else none) = none := by
  rcases h with h | h
  · rw [h, if_neg (by decide)]
  · rw [h]
    split <;> rfl
theorem tm_mt_sym {g : tm_G} {pat : Bool} {w p : List Nat} {c q : Nat} {b : Nat → Option Nat} (hq : q < w.length) (h : pat = false ∨ tm_vn c = none) : tm_mt g pat w (c :: p) q b = if tm_at w q = c then tm_mt g pat w p (q + 1) b else none := by
  rw [tm_mt, if_pos hq, tm_mt_sel h]
theorem tm_mt_inv {g : tm_G} {pat : Bool} {w p : List Nat} {c q : Nat} {b : Nat → Option Nat} {r : Nat × (Nat → Option Nat)} (h : tm_mt g pat w (c :: p) q b = some r) :
    q < w.length ∧ ((∃ v, pat = true ∧ tm_vn c = some v ∧ ((b v = none ∧ tm_mt g pat w p (tm_e g w q) (tm_bu b v q) = some r) ∨ (∃ q0, b v = some q0 ∧ tm_sub g w q0 = tm_sub g w q ∧ tm_mt g pat w p (tm_e g w q) b = some r))) ∨ ((pat = false ∨ tm_vn c = none) ∧ tm_at w q = c ∧ tm_mt g pat w p (q + 1) b = some r)) := by
  by_cases hq : q < w.length
  · refine ⟨hq, ?_⟩
    by_cases hs : pat = false ∨ tm_vn c = none
    · right
      rw [tm_mt_sym hq hs] at h
      by_cases hc : tm_at w q = c
      · rw [if_pos hc] at h
        exact ⟨hs, hc, h⟩
      · rw [if_neg hc] at h
        cases h
    · left
      have hp : pat = true := by
        cases pat with
        | false => exact absurd (Or.inl rfl) hs
        | true => rfl
      subst hp
      cases hv : tm_vn c with
      | none => exact absurd (Or.inr hv) hs
      | some v =>
        refine ⟨v, rfl, rfl, ?_⟩
        cases hb : b v with
        | none =>
          rw [tm_mt_new hq hv hb] at h
          exact Or.inl ⟨rfl, h⟩
        | some q0 =>
          rw [tm_mt_old hq hv hb] at h
          by_cases he : tm_sub g w q0 = tm_sub g w q
          · rw [if_pos he] at h
            exact Or.inr ⟨q0, rfl, he, h⟩
          · rw [if_neg he] at h
            cases h
  · rw [tm_mt_out (by omega)] at h
    cases h
def tm_V (g : tm_G) : Prop := ∀ c v, tm_vn c = some v → ∃ s, g c = some ([], s)
theorem tm_V_ar {g : tm_G} (hv : tm_V g) {c v : Nat} (h : tm_vn c = some v) : tm_ar g c = 0 := by
  obtain ⟨s, hs⟩ := hv c v h
  rw [tm_ar_some hs]
  rfl
theorem tm_mt_end {g : tm_G} {pat : Bool} {w : List Nat} (hv : tm_V g) (p : List Nat) : ∀ S q b r, tm_P g S p → tm_mt g pat w p q b = some r → r.1 = q + tm_en g S.length (w.drop q) := by
  induction p with
  | nil =>
    intro S q b r hP h
    have hS : S = [] := hP
    rw [tm_mt_nil] at h
    rw [← Option.some.inj h, hS, List.length_nil, tm_en_0]
    rfl
  | cons c p ih =>
    intro S q b r hP h
    obtain ⟨a, s, S', hg, rfl, hP'⟩ := hP
    obtain ⟨hq, hc⟩ := tm_mt_inv h
    rcases hc with ⟨v, _, hvc, hb⟩ | ⟨_, hat, hm⟩
    · obtain ⟨s2, hg2⟩ := hv c v hvc
      rw [hg] at hg2
      obtain ⟨rfl, rfl⟩ := Prod.mk.inj (Option.some.inj hg2)
      rw [List.nil_append] at hP'
      have hm : ∃ b2, tm_mt g pat w p (tm_e g w q) b2 = some r := by
        rcases hb with ⟨_, hm⟩ | ⟨_, _, _, hm⟩
        · exact ⟨_, hm⟩
        · exact ⟨_, hm⟩
      obtain ⟨b2, hm⟩ := hm
      rw [ih _ _ _ _ hP' hm, List.length_cons, Nat.add_comm S'.length 1, tm_en_add g (w.drop q) 1 S'.length, List.drop_drop]
      unfold tm_e
      omega
    · rw [ih _ _ _ _ hP' hm, List.length_cons, tm_drop_cons hq, hat, tm_en_s, tm_ar_some hg, List.length_append]
      omega
theorem tm_mt_pos {g : tm_G} {pat : Bool} {w : List Nat} (p : List Nat) : ∀ q b r, (∀ v q0, b v = some q0 → q0 < w.length) → tm_mt g pat w p q b = some r → ∀ v q0, r.2 v = some q0 → q0 < w.length := by
  induction p with
  | nil =>
    intro q b r hb h
    rw [tm_mt_nil] at h
    rw [← Option.some.inj h]
    exact hb
  | cons c p ih =>
    intro q b r hb h
    obtain ⟨hq, hc⟩ := tm_mt_inv h
    rcases hc with ⟨v, _, hvc, ⟨_, hm⟩ | ⟨_, _, _, hm⟩⟩ | ⟨_, hat, hm⟩
    · refine ih _ _ _ ?_ hm
      intro v2 q0 h2
      unfold tm_bu at h2
      by_cases e : v2 = v
      · rw [if_pos e] at h2
        rw [← Option.some.inj h2]
        exact hq
      · rw [if_neg e] at h2
        exact hb _ _ h2
    · exact ih _ _ _ hb hm
    · exact ih _ _ _ hb hm
theorem tm_mt_fix {g : tm_G} {w : List Nat} (p : List Nat) : ∀ q b r, tm_mt g false w p q b = some r → r.2 = b := by
  induction p with
  | nil =>
    intro q b r h
    rw [tm_mt_nil] at h
    rw [← Option.some.inj h]
  | cons c p ih =>
    intro q b r h
    obtain ⟨hq, hc⟩ := tm_mt_inv h
    rcases hc with ⟨v, hp, _⟩ | ⟨_, hat, hm⟩
    · cases hp
    · exact ih _ _ _ hm
def tm_T (g : tm_G) (w : List Nat) (b : Nat → Option Nat) : Prop := ∀ c v q0, tm_vn c = some v → b v = some q0 → ∃ s, g c = some ([], s) ∧ tm_P g [s] (tm_sub g w q0)
theorem tm_T_none {g : tm_G} {w : List Nat} : tm_T g w (fun _ => none) := fun _ _ _ _ h => nomatch h
theorem tm_mt_ty {g : tm_G} {pat : Bool} {w : List Nat} (hv : tm_V g) (p : List Nat) : ∀ S S2 q b r, tm_P g S p → tm_P g (S ++ S2) (w.drop q) → tm_T g w b → tm_mt g pat w p q b = some r → tm_T g w r.2 := by
  induction p with
  | nil =>
    intro S S2 q b r hP hW hT h
    rw [tm_mt_nil] at h
    rw [← Option.some.inj h]
    exact hT
  | cons c p ih =>
    intro S S2 q b r hP hW hT h
    obtain ⟨a, s, S', hg, rfl, hP'⟩ := hP
    obtain ⟨hq, hc⟩ := tm_mt_inv h
    rw [List.cons_append] at hW
    rcases hc with ⟨v, _, hvc, hb⟩ | ⟨_, hat, hm⟩
    · obtain ⟨s2, hg2⟩ := hv c v hvc
      rw [hg] at hg2
      obtain ⟨rfl, rfl⟩ := Prod.mk.inj (Option.some.inj hg2)
      rw [List.nil_append] at hP'
      obtain ⟨hs, hr⟩ := tm_sub_P hW
      rcases hb with ⟨_, hm⟩ | ⟨_, _, _, hm⟩
      · refine ih _ _ _ _ _ hP' hr ?_ hm
        intro c2 v2 q0 hv2 h2
        unfold tm_bu at h2
        by_cases e : v2 = v
        · rw [if_pos e] at h2
          subst e
          rw [← Option.some.inj h2, tm_vn_inj hv2 hvc]
          exact ⟨s, hg, hs⟩
        · rw [if_neg e] at h2
          exact hT _ _ _ hv2 h2
      · exact ih _ _ _ _ _ hP' hr hT hm
    · rw [tm_drop_cons hq, hat] at hW
      obtain ⟨a2, s2, S3, hg2, hS, hP2⟩ := hW
      rw [hg] at hg2
      obtain ⟨rfl, rfl⟩ := Prod.mk.inj (Option.some.inj hg2)
      obtain ⟨_, rfl⟩ := List.cons.inj hS
      rw [← List.append_assoc] at hP2
      exact ih _ _ _ _ _ hP' hP2 hT hm
theorem tm_mt_vars {g : tm_G} {w : List Nat} (hv : tm_V g) (p : List Nat) : ∀ S S2 q b, (∀ c, c ∈ p → ∃ v, tm_vn c = some v ∧ b v = none) → p.Nodup → tm_P g S p → tm_P g (S ++ S2) (w.drop q) → ∃ r, tm_mt g true w p q b = some r := by
  induction p with
  | nil =>
    intro S S2 q b _ _ _ _
    exact ⟨_, tm_mt_nil⟩
  | cons c p ih =>
    intro S S2 q b hb hn hP hW
    obtain ⟨a, s, S', hg, rfl, hP'⟩ := hP
    rw [List.cons_append] at hW
    have hq : q < w.length := by
      have := tm_P_ne hW
      rw [List.length_drop] at this
      omega
    obtain ⟨v, hvc, hbv⟩ := hb c (List.mem_cons_self)
    obtain ⟨s2, hg2⟩ := hv c v hvc
    rw [hg] at hg2
    obtain ⟨rfl, rfl⟩ := Prod.mk.inj (Option.some.inj hg2)
    rw [List.nil_append] at hP'
    obtain ⟨hs, hr⟩ := tm_sub_P hW
    rw [tm_mt_new hq hvc hbv]
    obtain ⟨hn1, hn2⟩ := List.nodup_cons.mp hn
    refine ih _ _ _ _ ?_ hn2 hP' hr
    intro c2 h2
    obtain ⟨v2, hv2, hb2⟩ := hb c2 (List.mem_cons_of_mem _ h2)
    refine ⟨v2, hv2, ?_⟩
    unfold tm_bu
    rw [if_neg ?_]
    · exact hb2
    · intro e
      subst e
      rw [tm_vn_inj hv2 hvc] at h2
      exact hn1 h2
/-! filled patterns -/
def tm_i1 (g : tm_G) (w : List Nat) (b : Nat → Option Nat) (c : Nat) : List Nat := match tm_vn c with
  | some v => match b v with
    | some q => tm_sub g w q
    | none => [c]
  | none => [c]
theorem tm_i1_n {g : tm_G} {w : List Nat} {b : Nat → Option Nat} {c : Nat} (h : tm_vn c = none) : tm_i1 g w b c = [c] := by
  unfold tm_i1
  rw [h]
theorem tm_i1_u {g : tm_G} {w : List Nat} {b : Nat → Option Nat} {c v : Nat} (h : tm_vn c = some v) (hb : b v = none) : tm_i1 g w b c = [c] := by
  unfold tm_i1
  rw [h]
  dsimp only
  rw [hb]
theorem tm_i1_b {g : tm_G} {w : List Nat} {b : Nat → Option Nat} {c v q : Nat} (h : tm_vn c = some v) (hb : b v = some q) : tm_i1 g w b c = tm_sub g w q := by
  unfold tm_i1
  rw [h]
  dsimp only
  rw [hb]
theorem tm_i1_c (g : tm_G) (w : List Nat) (b : Nat → Option Nat) (c : Nat) : tm_i1 g w b c = [c] ∨ ∃ v q, tm_vn c = some v ∧ b v = some q ∧ tm_i1 g w b c = tm_sub g w q := by
  cases h : tm_vn c with
  | none => exact Or.inl (tm_i1_n h)
  | some v =>
    cases hb : b v with
    | none => exact Or.inl (tm_i1_u h hb)
    | some q => exact Or.inr ⟨v, q, rfl, hb, tm_i1_b h hb⟩
def tm_in (g : tm_G) (w : List Nat) (b : Nat → Option Nat) : List Nat → List Nat
  | [] => []
  | c :: p => tm_i1 g w b c ++ tm_in g w b p
theorem tm_in_ty {g : tm_G} {w : List Nat} {b : Nat → Option Nat} (hT : tm_T g w b) (p : List Nat) : ∀ S, tm_P g S p → tm_P g S (tm_in g w b p) := by
  induction p with
  | nil => exact fun S h => h
  | cons c p ih =>
    intro S h
    obtain ⟨a, s, S', hg, rfl, hP⟩ := h
    have hi := ih _ hP
    show tm_P g (s :: S') (tm_i1 g w b c ++ tm_in g w b p)
    rcases tm_i1_c g w b c with e | ⟨v, q, hv, hb, e⟩
    · rw [e]
      exact ⟨a, s, S', hg, rfl, hi⟩
    · obtain ⟨s2, hg2, hs⟩ := hT c v q hv hb
      rw [hg] at hg2
      obtain ⟨rfl, rfl⟩ := Prod.mk.inj (Option.some.inj hg2)
      rw [e]
      exact tm_P_app hi _ [s] hs
theorem tm_in_mem {g : tm_G} {w : List Nat} {b : Nat → Option Nat} {d : Nat} (p : List Nat) : d ∈ tm_in g w b p → d ∈ p ∨ d ∈ w := by
  induction p with
  | nil => exact fun h => Or.inl h
  | cons c p ih =>
    intro h
    have h' : d ∈ tm_i1 g w b c ++ tm_in g w b p := h
    rcases List.mem_append.mp h' with h1 | h1
    · rcases tm_i1_c g w b c with e | ⟨v, q, hv, hb, e⟩
      · rw [e] at h1
        rw [List.mem_singleton.mp h1]
        exact Or.inl (List.mem_cons_self)
      · rw [e] at h1
        exact Or.inr (tm_sub_mem h1)
    · rcases ih h1 with h2 | h2
      · exact Or.inl (List.mem_cons_of_mem _ h2)
      · exact Or.inr h2
theorem tm_in_none {g : tm_G} {w : List Nat} (p : List Nat) : tm_in g w (fun _ => none) p = p := by
  induction p with
  | nil => rfl
  | cons c p ih =>
    show tm_i1 g w (fun _ => none) c ++ tm_in g w (fun _ => none) p = c :: p
    rw [ih]
    cases h : tm_vn c with
    | none => rw [tm_i1_n h]; rfl
    | some v => rw [tm_i1_u h rfl]; rfl
/-! REPLACE from position i on: the number of hits and the text -/
def tm_rp (g : tm_G) (pat : Bool) (w fr to : List Nat) : Nat → Nat → Nat × List Nat
  | 0, _ => (0, [])
  | n + 1, i =>
    if i < w.length then
      match tm_mt g pat w fr i (fun _ => none) with
      | some r => ((tm_rp g pat w fr to n (tm_e g w i)).1 + 1, tm_in g w r.2 to ++ (tm_rp g pat w fr to n (tm_e g w i)).2)
      | none => ((tm_rp g pat w fr to n (i + 1)).1, tm_at w i :: (tm_rp g pat w fr to n (i + 1)).2)
    else (0, [])
theorem tm_rp_out {g : tm_G} {pat : Bool} {w fr to : List Nat} {n i : Nat} (h : w.length ≤ i) : tm_rp g pat w fr to n i = (0, []) := by
  cases n with
  | zero => rfl
  | succ n => rw [tm_rp, if_neg (by omega)]
theorem tm_rp_hit {g : tm_G} {pat : Bool} {w fr to : List Nat} {n i : Nat} {r : Nat × (Nat → Option Nat)} (h : i < w.length) (hm : tm_mt g pat w fr i (fun _ => none) = some r) : tm_rp g pat w fr to (n + 1) i = ((tm_rp g pat w fr to n (tm_e g w i)).1 + 1, tm_in g w r.2 to ++ (tm_rp g pat w fr to n (tm_e g w i)).2) := by
  rw [tm_rp, if_pos h, hm]
theorem tm_rp_miss {g : tm_G} {pat : Bool} {w fr to : List Nat} {n i : Nat} (h : i < w.length) (hm : tm_mt g pat w fr i (fun _ => none) = none) : tm_rp g pat w fr to (n + 1) i = ((tm_rp g pat w fr to n (i + 1)).1, tm_at w i :: (tm_rp g pat w fr to n (i + 1)).2) := by
  rw [tm_rp, if_pos h, hm]
theorem tm_rp_fuel {g : tm_G} {pat : Bool} {w fr to : List Nat} (n : Nat) : ∀ m i, w.length - i ≤ n → w.length - i ≤ m → tm_rp g pat w fr to n i = tm_rp g pat w fr to m i := by
  induction n with
  | zero =>
    intro m i h _
    rw [tm_rp_out (by omega), tm_rp_out (by omega)]
  | succ n ih =>
    intro m i h h2
    by_cases hi : i < w.length
    · cases m with
      | zero => omega
      | succ m =>
        have he := tm_e_gt g hi
        cases hm : tm_mt g pat w fr i (fun _ => none) with
        | some r => rw [tm_rp_hit hi hm, tm_rp_hit hi hm, ih m _ (by omega) (by omega)]
        | none => rw [tm_rp_miss hi hm, tm_rp_miss hi hm, ih m _ (by omega) (by omega)]
    · rw [tm_rp_out (by omega), tm_rp_out (by omega)]
def tm_R (g : tm_G) (pat : Bool) (w fr to : List Nat) (i : Nat) : Nat × List Nat := tm_rp g pat w fr to w.length i
theorem tm_R_out {g : tm_G} {pat : Bool} {w fr to : List Nat} {i : Nat} (h : w.length ≤ i) : tm_R g pat w fr to i = (0, []) := tm_rp_out h
theorem tm_R_hit {g : tm_G} {pat : Bool} {w fr to : List Nat} {i : Nat} {r : Nat × (Nat → Option Nat)} (h : i < w.length) (hm : tm_mt g pat w fr i (fun _ => none) = some r) : tm_R g pat w fr to i = ((tm_R g pat w fr to (tm_e g w i)).1 + 1, tm_in g w r.2 to ++ (tm_R g pat w fr to (tm_e g w i)).2) := by
  unfold tm_R
  have he := tm_e_gt g h
  rw [tm_rp_fuel w.length (w.length + 1) i (by omega) (by omega), tm_rp_hit h hm]
theorem tm_R_miss {g : tm_G} {pat : Bool} {w fr to : List Nat} {i : Nat} (h : i < w.length) (hm : tm_mt g pat w fr i (fun _ => none) = none) : tm_R g pat w fr to i = ((tm_R g pat w fr to (i + 1)).1, tm_at w i :: (tm_R g pat w fr to (i + 1)).2) := by
  unfold tm_R
  rw [tm_rp_fuel w.length (w.length + 1) i (by omega) (by omega), tm_rp_miss h hm]
theorem tm_R_cnt {g : tm_G} {pat : Bool} {w fr to : List Nat} : ∀ d i, w.length - i ≤ d → (tm_R g pat w fr to i).1 ≤ w.length - i := by
  intro d
  induction d with
  | zero =>
    intro i h
    rw [tm_R_out (by omega)]
    exact Nat.zero_le _
  | succ d ih =>
    intro i h
    by_cases hi : i < w.length
    · have he := tm_e_gt g hi
      cases hm : tm_mt g pat w fr i (fun _ => none) with
      | some r =>
        rw [tm_R_hit hi hm]
        have := ih (tm_e g w i) (by omega)
        dsimp only
        omega
      | none =>
        rw [tm_R_miss hi hm]
        have := ih (i + 1) (by omega)
        dsimp only
        omega
    · rw [tm_R_out (by omega)]
      exact Nat.zero_le _
theorem tm_R_len1 {g : tm_G} {w fr to : List Nat} (h1 : to.length = 1) : ∀ d i, w.length - i ≤ d → (tm_R g false w fr to i).2.length ≤ w.length - i := by
  intro d
  induction d with
  | zero =>
    intro i h
    rw [tm_R_out (by omega)]
    exact Nat.zero_le _
  | succ d ih =>
    intro i h
    by_cases hi : i < w.length
    · have he := tm_e_gt g hi
      cases hm : tm_mt g false w fr i (fun _ => none) with
      | some r =>
        rw [tm_R_hit hi hm, tm_mt_fix _ _ _ _ hm, tm_in_none]
        have := ih (tm_e g w i) (by omega)
        dsimp only
        rw [List.length_append]
        omega
      | none =>
        rw [tm_R_miss hi hm]
        have := ih (i + 1) (by omega)
        dsimp only
        rw [List.length_cons]
        omega
    · rw [tm_R_out (by omega)]
      exact Nat.zero_le _
theorem tm_R_mem {g : tm_G} {pat : Bool} {w fr to : List Nat} {c : Nat} : ∀ d i, w.length - i ≤ d → c ∈ (tm_R g pat w fr to i).2 → c ∈ to ∨ c ∈ w := by
  intro d
  induction d with
  | zero =>
    intro i h
    rw [tm_R_out (by omega)]
    exact fun h => nomatch h
  | succ d ih =>
    intro i h
    by_cases hi : i < w.length
    · have he := tm_e_gt g hi
      cases hm : tm_mt g pat w fr i (fun _ => none) with
      | some r =>
        rw [tm_R_hit hi hm]
        dsimp only
        intro hc
        rcases List.mem_append.mp hc with h1 | h1
        · exact tm_in_mem _ h1
        · exact ih (tm_e g w i) (by omega) h1
      | none =>
        rw [tm_R_miss hi hm]
        dsimp only
        intro hc
        rcases List.mem_cons.mp hc with h1 | h1
        · rw [h1]
          exact Or.inr (tm_at_mem hi)
        · exact ih (i + 1) (by omega) h1
    · rw [tm_R_out (by omega)]
      exact fun h => nomatch h
theorem tm_R_ty {g : tm_G} {pat : Bool} {w p0 to : List Nat} {c0 s : Nat} (hv : tm_V g) (hf : tm_P g [s] (c0 :: p0)) (ht : tm_P g [s] to) (hh : pat = false ∨ tm_vn c0 = none) : ∀ d i S, w.length - i ≤ d → tm_P g S (w.drop i) → tm_P g S (tm_R g pat w (c0 :: p0) to i).2 := by
  intro d
  induction d with
  | zero =>
    intro i S h hP
    rw [tm_R_out (by omega)]
    rw [List.drop_eq_nil_of_le (by omega)] at hP
    exact hP
  | succ d ih =>
    intro i S h hP
    by_cases hi : i < w.length
    · have he := tm_e_gt g hi
      have hP0 := hP
      rw [tm_drop_cons hi] at hP
      obtain ⟨a1, s1, S', hg1, rfl, hP1⟩ := hP
      cases hm : tm_mt g pat w (c0 :: p0) i (fun _ => none) with
      | some r =>
        rw [tm_R_hit hi hm]
        dsimp only
        obtain ⟨_, hc⟩ := tm_mt_inv hm
        have hat : tm_at w i = c0 := by
          rcases hc with ⟨v, hp, hvc, _⟩ | ⟨_, hat, _⟩
          · rcases hh with hh | hh
            · rw [hh] at hp; cases hp
            · rw [hh] at hvc; cases hvc
          · exact hat
        have hf' := hf
        obtain ⟨a, s2, S2, hg, hS, _⟩ := hf'
        obtain ⟨rfl, _⟩ := List.cons.inj hS
        rw [hat, hg] at hg1
        obtain ⟨rfl, rfl⟩ := Prod.mk.inj (Option.some.inj hg1)
        have hT := tm_mt_ty hv _ [s] S' i _ r hf hP0 tm_T_none hm
        have hr := (tm_sub_P hP0).2
        exact tm_P_app (ih _ _ (by omega) hr) _ [s] (tm_in_ty hT _ _ ht)
      | none =>
        rw [tm_R_miss hi hm]
        exact ⟨a1, s1, S', hg1, rfl, ih _ _ (by omega) hP1⟩
    · rw [tm_R_out (by omega)]
      rw [List.drop_eq_nil_of_le (by omega)] at hP
      exact hP
theorem tm_R_one {g : tm_G} {w to : List Nat} {v : Nat} (ha : tm_ar g v = 0) : ∀ d i, w.length - i ≤ d → (tm_R g false w [v] to i).2 = (w.drop i).flatMap (fun c => if c = v then to else [c]) := by
  intro d
  induction d with
  | zero =>
    intro i h
    rw [tm_R_out (by omega), List.drop_eq_nil_of_le (by omega)]
    rfl
  | succ d ih =>
    intro i h
    by_cases hi : i < w.length
    · rw [tm_drop_cons hi, List.flatMap_cons]
      by_cases hc : tm_at w i = v
      · have hm : tm_mt g false w [v] i (fun _ => none) = some (i + 1, fun _ => none) := by
          rw [tm_mt_sym hi (Or.inl rfl), if_pos hc, tm_mt_nil]
        rw [tm_R_hit hi hm, tm_in_none, if_pos hc]
        have he : tm_e g w i = i + 1 := by
          rw [tm_e_rec g hi, hc, ha, tm_en_0]
        rw [he, ih (i + 1) (by omega)]
      · have hm : tm_mt g false w [v] i (fun _ => none) = none := by
          rw [tm_mt_sym hi (Or.inl rfl), if_neg hc]
        rw [tm_R_miss hi hm, if_neg hc, ih (i + 1) (by omega)]
        rfl
    · rw [tm_R_out (by omega), List.drop_eq_nil_of_le (by omega)]
      rfl
end
section
/-! 03: NORMALIZE: pure -/
def tm_kd (c : Nat) : Option Nat := if c = 90 ∨ c = 78 then some 0 else if c = 83 ∨ c = 67 then some 1 else none
abbrev tm_fn (c : Nat) : Prop := 70 ≤ c ∧ c ≤ 77
abbrev tm_rd (w : List Nat) (i : Nat) : Prop := tm_fn (tm_at w i) ∧ tm_kd (tm_at w (i + 1)) ≠ none
def tm_rx (w : List Nat) : Nat → Option Nat
  | 0 => none
  | i + 1 => if tm_rd w i then some i else tm_rx w i
def tm_ri (w : List Nat) (i : Nat) : Nat := 4 * (tm_at w i - 70) + 2 * (tm_kd (tm_at w (i + 1))).getD 0
def tm_st (g : tm_G) (R : Nat → List Nat) (w : List Nat) (i : Nat) : List Nat := match tm_mt g true w (R (tm_ri w i)) i (fun _ => none) with
  | some r => w.take i ++ (tm_in g w r.2 (R (tm_ri w i + 1)) ++ w.drop (tm_e g w i))
  | none => w
def tm_nz (g : tm_G) (R : Nat → List Nat) : Nat → List Nat → Option (List Nat)
  | 0, w => match tm_rx w w.length with
    | none => some w
    | some _ => none
  | n + 1, w => match tm_rx w w.length with
    | none => some w
    | some i => if (tm_st g R w i).length ≤ 48 then tm_nz g R n (tm_st g R w i) else none
theorem tm_nz_no {g : tm_G} {R : Nat → List Nat} {n : Nat} {w : List Nat} (h : tm_rx w w.length = none) : tm_nz g R n w = some w := by
  cases n with
  | zero => rw [tm_nz, h]
  | succ n => rw [tm_nz, h]
theorem tm_nz_0 {g : tm_G} {R : Nat → List Nat} {w : List Nat} {i : Nat} (h : tm_rx w w.length = some i) : tm_nz g R 0 w = none := by
  rw [tm_nz, h]
theorem tm_nz_s {g : tm_G} {R : Nat → List Nat} {n : Nat} {w : List Nat} {i : Nat} (h : tm_rx w w.length = some i) : tm_nz g R (n + 1) w = if (tm_st g R w i).length ≤ 48 then tm_nz g R n (tm_st g R w i) else none := by
  rw [tm_nz, h]
theorem tm_rx_lt {w : List Nat} (n : Nat) : ∀ i, tm_rx w n = some i → i < n ∧ tm_rd w i := by
  induction n with
  | zero => intro i h; cases h
  | succ n ih =>
    intro i h
    rw [tm_rx] at h
    by_cases hr : tm_rd w n
    · rw [if_pos hr] at h
      rw [← Option.some.inj h]
      exact ⟨Nat.lt_succ_self _, hr⟩
    · rw [if_neg hr] at h
      obtain ⟨h1, h2⟩ := ih i h
      exact ⟨by omega, h2⟩
theorem tm_kd_0 : tm_kd 0 = none := by decide
theorem tm_rd_lt {w : List Nat} {i : Nat} (h : tm_rd w i) : i + 1 < w.length := by
  apply Nat.lt_of_not_le
  intro hge
  apply h.2
  rw [tm_at_ge hge]
  exact tm_kd_0
theorem tm_kd_c {c k : Nat} (h : tm_kd c = some k) : (k = 0 ∧ (c = 90 ∨ c = 78)) ∨ (k = 1 ∧ (c = 83 ∨ c = 67)) := by
  unfold tm_kd at h
  split at h
  · exact Or.inl ⟨(Option.some.inj h).symm, by assumption⟩
  · split at h
    · exact Or.inr ⟨(Option.some.inj h).symm, by assumption⟩
    · cases h
theorem tm_kd_vn {c k : Nat} (h : tm_kd c = some k) : tm_vn c = none := by
  have := tm_kd_c h
  unfold tm_vn
  rw [if_neg (by omega), if_neg (by omega)]
theorem tm_fn_vn {c : Nat} (h : tm_fn c) : tm_vn c = none := by
  unfold tm_vn
  rw [if_neg (by omega), if_neg (by omega)]
/-- what a signature must keep -/
def tm_GS (g : tm_G) : Prop := tm_V g ∧ (∀ c d k a a' s, tm_kd c = some k → tm_kd d = some k → g c = some (a, s) → g d = some (a', s) → c = d) ∧ (∀ c a s, tm_fn c → g c = some (a, s) → a ≠ [])
def tm_cp (R : Nat → List Nat) (c : Nat) : Prop := R (4 * (c - 70)) ≠ [] ∧ R (4 * (c - 70) + 2) ≠ []
def tm_FC (R : Nat → List Nat) (w : List Nat) : Prop := ∀ c, c ∈ w → tm_fn c → tm_cp R c
/-- the rule at index 4 f + 2 k -/
def tm_RW (g : tm_G) (R : Nat → List Nat) (f k : Nat) : Prop := ∃ K vs s, R (4 * f + 2 * k) = (70 + f) :: K :: vs ∧ tm_kd K = some k ∧ (∀ c, c ∈ vs → ∃ v, tm_vn c = some v) ∧ vs.Nodup ∧ tm_P g [s] (R (4 * f + 2 * k)) ∧ tm_P g [s] (R (4 * f + 2 * k + 1)) ∧ (∀ c, c ∈ R (4 * f + 2 * k + 1) → tm_fn c → c = 70 + f ∨ tm_cp R c)
def tm_RU (g : tm_G) (R : Nat → List Nat) : Prop := ∀ f k, f < 8 → k < 2 → R (4 * f + 2 * k) ≠ [] → tm_RW g R f k
theorem tm_P_mid {g : tm_G} {v : List Nat} (u : List Nat) : ∀ S0, tm_P g S0 (u ++ v) → ∃ S', tm_P g S' v ∧ ∀ v', tm_P g S' v' → tm_P g S0 (u ++ v') := by
  induction u with
  | nil => exact fun S0 h => ⟨S0, h, fun v' h' => h'⟩
  | cons c u ih =>
    intro S0 h
    obtain ⟨a, s, S', hg, rfl, hP⟩ := h
    obtain ⟨S2, h2, h3⟩ := ih _ hP
    exact ⟨S2, h2, fun v' h' => ⟨a, s, S', hg, rfl, h3 v' h'⟩⟩
theorem tm_st_ok {g : tm_G} {R : Nat → List Nat} {w S : List Nat} {i : Nat} (hG : tm_GS g) (hR : tm_RU g R) (hP : tm_P g S w) (hF : tm_FC R w) (hr : tm_rd w i) :
    ∃ r, tm_mt g true w (R (tm_ri w i)) i (fun _ => none) = some r ∧ R (tm_ri w i) ≠ [] ∧ tm_st g R w i = w.take i ++ (tm_in g w r.2 (R (tm_ri w i + 1)) ++ w.drop (tm_e g w i)) ∧ tm_P g S (tm_st g R w i) ∧ tm_FC R (tm_st g R w i) := by
  have hl := tm_rd_lt hr
  obtain ⟨af, sf, S1, hgf, hPf, hP1⟩ := tm_P_suf hP (i := i) (by omega)
  have hfn : tm_fn (tm_at w i) := hr.1
  obtain ⟨k, hk⟩ : ∃ k, tm_kd (tm_at w (i + 1)) = some k := Option.ne_none_iff_exists'.mp hr.2
  have hk2 : k < 2 := by
    have := tm_kd_c hk
    omega
  have hcp := hF _ (tm_at_mem (w := w) (i := i) (by omega)) hfn
  have hri : tm_ri w i = 4 * (tm_at w i - 70) + 2 * k := by
    unfold tm_ri
    rw [hk]
    rfl
  have hne : R (tm_ri w i) ≠ [] := by
    rw [hri]
    have : k = 0 ∨ k = 1 := by omega
    rcases this with rfl | rfl
    · exact hcp.1
    · exact hcp.2
  have hW := hR (tm_at w i - 70) k (by omega) hk2 (by rw [← hri]; exact hne)
  obtain ⟨K, vs, s, hl1, hkK, hvs, hnd, hPl, hPr, hFr⟩ := hW
  rw [← hri] at hl1 hPl hPr hFr
  rw [show 70 + (tm_at w i - 70) = tm_at w i by omega] at hl1 hFr
  have hPl0 := hPl
  rw [hl1] at hPl
  obtain ⟨a2, s2, S2, hg2, hS2, hP2⟩ := hPl
  obtain ⟨rfl, rfl⟩ := List.cons.inj hS2
  rw [hgf] at hg2
  obtain ⟨rfl, rfl⟩ := Prod.mk.inj (Option.some.inj hg2)
  cases af with
  | nil => exact absurd rfl (hG.2.2 _ _ _ hfn hgf)
  | cons s1 af =>
  rw [List.append_nil] at hP2
  obtain ⟨aK, sK, SK, hgK, hSK, hPK⟩ := hP2
  obtain ⟨rfl, rfl⟩ := List.cons.inj hSK
  have hP1' := hP1
  rw [tm_drop_cons hl, List.cons_append] at hP1'
  obtain ⟨aC, sC, SC, hgC, hSC, hPC⟩ := hP1'
  obtain ⟨rfl, rfl⟩ := List.cons.inj hSC
  have hKC := hG.2.1 _ _ _ _ _ _ hkK hk hgK hgC
  subst hKC
  rw [hgK] at hgC
  obtain ⟨rfl, _⟩ := Prod.mk.inj (Option.some.inj hgC)
  rw [← List.append_assoc] at hPC
  obtain ⟨r, hm⟩ := tm_mt_vars hG.1 vs (aK ++ af) S1 (i + 1 + 1) (fun _ => none) (fun c hc => by
    obtain ⟨v, hv⟩ := hvs c hc
    exact ⟨v, hv, rfl⟩) hnd hPK hPC
  have hmm : tm_mt g true w (R (tm_ri w i)) i (fun _ => none) = some r := by
    rw [hl1, tm_mt_sym (by omega) (Or.inr (tm_fn_vn hfn)), if_pos rfl, tm_mt_sym hl (Or.inr (tm_kd_vn hk)), if_pos rfl]
    exact hm
  have hst : tm_st g R w i = w.take i ++ (tm_in g w r.2 (R (tm_ri w i + 1)) ++ w.drop (tm_e g w i)) := by
    unfold tm_st
    rw [hmm]
  refine ⟨r, hmm, hne, hst, ?_, ?_⟩
  · rw [hst]
    have hP0 := hP
    rw [← List.take_append_drop i w] at hP0
    obtain ⟨S3, h3, h4⟩ := tm_P_mid (w.take i) S hP0
    have := tm_P_uniq _ _ _ h3 hPf
    subst this
    apply h4
    have hT := tm_mt_ty hG.1 _ _ S1 i _ r hPl0 hPf tm_T_none hmm
    exact tm_P_app (tm_sub_P hPf).2 _ _ (tm_in_ty hT _ _ hPr)
  · rw [hst]
    intro c hc hcf
    rcases List.mem_append.mp hc with h | h
    · exact hF c (List.mem_of_mem_take h) hcf
    · rcases List.mem_append.mp h with h | h
      · rcases tm_in_mem _ h with h | h
        · rcases hFr c h hcf with e | e
          · rw [e]
            exact hcp
          · exact e
        · exact hF c h hcf
      · exact hF c (List.mem_of_mem_drop h) hcf
theorem tm_nz_ok {g : tm_G} {R : Nat → List Nat} {S : List Nat} (hG : tm_GS g) (hR : tm_RU g R) (n : Nat) : ∀ w w', tm_P g S w → tm_FC R w → w.length ≤ 48 → tm_nz g R n w = some w' → tm_P g S w' ∧ tm_FC R w' ∧ w'.length ≤ 48 := by
  induction n with
  | zero =>
    intro w w' hP hF hl h
    cases hx : tm_rx w w.length with
    | none =>
      rw [tm_nz_no hx] at h
      rw [← Option.some.inj h]
      exact ⟨hP, hF, hl⟩
    | some i =>
      rw [tm_nz_0 hx] at h
      cases h
  | succ n ih =>
    intro w w' hP hF hl h
    cases hx : tm_rx w w.length with
    | none =>
      rw [tm_nz_no hx] at h
      rw [← Option.some.inj h]
      exact ⟨hP, hF, hl⟩
    | some i =>
      rw [tm_nz_s hx] at h
      obtain ⟨r, _, _, _, h1, h2⟩ := tm_st_ok hG hR hP hF (tm_rx_lt _ _ hx).2
      by_cases h3 : (tm_st g R w i).length ≤ 48
      · rw [if_pos h3] at h
        exact ih _ _ h1 h2 h3 h
      · rw [if_neg h3] at h
        cases h
end
section
/-! 04: a table of texts as one array of cells and one of lengths; bits of sorts; reading from the end -/
def cm_M (W N : Nat) (T L : Nat → Int32) (m : Nat → List Nat) : Prop := ∀ s, s < N → L s = nI (m s).length ∧ (m s).length ≤ W ∧ ∀ i, i < (m s).length → tm_at (m s) i < 256 ∧ T (s * W + i) = nI (tm_at (m s) i)
def cm_set (m : Nat → List Nat) (s : Nat) (w : List Nat) : Nat → List Nat := fun j => if j = s then w else m j
theorem cm_set_s {m : Nat → List Nat} {s : Nat} {w : List Nat} : cm_set m s w s = w := if_pos rfl
theorem cm_set_n {m : Nat → List Nat} {s j : Nat} {w : List Nat} (h : j ≠ s) : cm_set m s w j = m j := if_neg h
theorem cm_set_set {m : Nat → List Nat} {s : Nat} {u w : List Nat} : cm_set (cm_set m s u) s w = cm_set m s w := by
  funext j
  unfold cm_set
  by_cases h : j = s
  · rw [if_pos h, if_pos h]
  · rw [if_neg h, if_neg h, if_neg h]
theorem cm_set_self {m : Nat → List Nat} {s : Nat} : cm_set m s (m s) = m := by
  funext j
  unfold cm_set
  by_cases h : j = s
  · rw [if_pos h, h]
  · rw [if_neg h]
theorem cm_uu {f : Nat → Int32} {k : Nat} {x y : Int32} : upd (upd f k x) k y = upd f k y := by
  funext j
  unfold upd
  by_cases h : j = k
  · rw [if_pos h, if_pos h]
  · rw [if_neg h, if_neg h, if_neg h]
theorem cm_ue {f : Nat → Int32} {k : Nat} {x : Int32} (h : f k = x) : upd f k x = f := by
  funext j
  unfold upd
  by_cases e : j = k
  · rw [if_pos e, e, h]
  · rw [if_neg e]
theorem cm_us {f : Nat → Int32} {k : Nat} {x : Int32} : upd f k x k = x := if_pos rfl
theorem cm_un {f : Nat → Int32} {k j : Nat} {x : Int32} (h : j ≠ k) : upd f k x j = f j := if_neg h
theorem cm_len {W N : Nat} {T L : Nat → Int32} {m : Nat → List Nat} (h : cm_M W N T L m) {s : Nat} (hs : s < N) : L s = nI (m s).length := (h s hs).1
theorem cm_le {W N : Nat} {T L : Nat → Int32} {m : Nat → List Nat} (h : cm_M W N T L m) {s : Nat} (hs : s < N) : (m s).length ≤ W := (h s hs).2.1
theorem cm_t {W N : Nat} {T L : Nat → Int32} {m : Nat → List Nat} (h : cm_M W N T L m) {s i : Nat} (hs : s < N) (hi : i < (m s).length) : T (s * W + i) = nI (tm_at (m s) i) := ((h s hs).2.2 i hi).2
theorem cm_b {W N : Nat} {T L : Nat → Int32} {m : Nat → List Nat} (h : cm_M W N T L m) {s : Nat} (hs : s < N) (i : Nat) : tm_at (m s) i < 256 := by
  by_cases hi : i < (m s).length
  · exact ((h s hs).2.2 i hi).1
  · rw [tm_at_ge (by omega)]
    omega
theorem cm_mem {W N : Nat} {T L : Nat → Int32} {m : Nat → List Nat} (h : cm_M W N T L m) {s : Nat} (hs : s < N) {c : Nat} (hc : c ∈ m s) : c < 256 := by
  obtain ⟨i, _, rfl⟩ := tm_mem_at hc
  exact cm_b h hs i
theorem cm_cell {W s i s' i' : Nat} (hi : i < W) (hi' : i' < W) (h : s * W + i = s' * W + i') : s = s' ∧ i = i' := by
  have e1 : (s * W + i) / W = s := by
    rw [Nat.mul_comm, Nat.mul_add_div (by omega), Nat.div_eq_of_lt hi, Nat.add_zero]
  have e2 : (s' * W + i') / W = s' := by
    rw [Nat.mul_comm, Nat.mul_add_div (by omega), Nat.div_eq_of_lt hi', Nat.add_zero]
  rw [h] at e1
  have : s = s' := by rw [← e1, e2]
  subst this
  exact ⟨rfl, by omega⟩
/-- one more symbol behind a text -/
theorem cm_put {W N : Nat} {T L : Nat → Int32} {m : Nat → List Nat} (h : cm_M W N T L m) {s c n : Nat} (hs : s < N) (hn : (m s).length = n) (hl : n < W) (hc : c < 256) : cm_M W N (upd T (s * W + n) (nI c)) (upd L s (nI (n + 1))) (cm_set m s (m s ++ [c])) := by
  intro j hj
  by_cases e : j = s
  · subst e
    rw [cm_set_s, cm_us, List.length_append, hn]
    refine ⟨rfl, by rw [List.length_singleton]; omega, ?_⟩
    intro i hi
    rw [List.length_singleton] at hi
    by_cases e : i = n
    · subst e
      rw [cm_us, tm_at_app_r (by omega), hn, Nat.sub_self]
      exact ⟨hc, rfl⟩
    · rw [cm_un (by omega), tm_at_app_l (by omega)]
      exact (h j hj).2.2 i (by omega)
  · rw [cm_set_n e, cm_un e]
    refine ⟨(h j hj).1, (h j hj).2.1, ?_⟩
    intro i hi
    have hw := (h j hj).2.1
    rw [cm_un ?_]
    · exact (h j hj).2.2 i hi
    · intro z
      exact e (cm_cell (by omega) hl z).1
/-- a text cut to its first k symbols -/
theorem cm_cut {W N : Nat} {T L : Nat → Int32} {m : Nat → List Nat} (h : cm_M W N T L m) {s k : Nat} (hs : s < N) (hk : k ≤ (m s).length) : cm_M W N T (upd L s (nI k)) (cm_set m s ((m s).take k)) := by
  intro j hj
  by_cases e : j = s
  · subst e
    rw [cm_set_s, cm_us, List.length_take, Nat.min_eq_left hk]
    refine ⟨rfl, by have := (h j hj).2.1; omega, ?_⟩
    intro i hi
    rw [tm_at_take hi]
    exact (h j hj).2.2 i (by omega)
  · rw [cm_set_n e, cm_un e]
    exact h j hj
theorem cm_nil {W N : Nat} {T L : Nat → Int32} {m : Nat → List Nat} (h : cm_M W N T L m) {s : Nat} (hs : s < N) : cm_M W N T (upd L s 0) (cm_set m s []) := by
  have := cm_cut h hs (Nat.zero_le _)
  rw [List.take_zero] at this
  exact this
theorem cm_tt (K : Nat) (x y : List Nat) : (x.take K ++ y).take K = (x ++ y).take K := by
  by_cases h : x.length ≤ K
  · rw [List.take_of_length_le h]
  · rw [List.take_append_of_le_length (by rw [List.length_take]; omega), List.take_append_of_le_length (by omega), List.take_take, Nat.min_self]
theorem cm_tl {K : Nat} {x : List Nat} (h : x.length ≤ K) : x.take K = x := List.take_of_length_le h
theorem cm_snoc {w : List Nat} {n : Nat} (h : n < w.length) : w.take n ++ [tm_at w n] = w.take (n + 1) := by
  rw [tm_at_lt h]
  exact List.take_append_getElem h
/-! sorts as bits -/
def so_num (S : List Nat) : Nat := S.foldr (fun b n => b + 2 * n) 0
theorem so_num_nil : so_num [] = 0 := rfl
theorem so_num_cons (b : Nat) (S : List Nat) : so_num (b :: S) = b + 2 * so_num S := rfl
def so_B (S : List Nat) : Prop := ∀ x, x ∈ S → x < 2
theorem so_B_cons {b : Nat} {S : List Nat} (h : so_B (b :: S)) : b < 2 ∧ so_B S := ⟨h b List.mem_cons_self, fun x hx => h x (List.mem_cons_of_mem _ hx)⟩
theorem so_B_mk {b : Nat} {S : List Nat} (h : b < 2) (h2 : so_B S) : so_B (b :: S) := by
  intro x hx
  rcases List.mem_cons.mp hx with e | e
  · omega
  · exact h2 x e
theorem so_B_drop {S : List Nat} (h : so_B S) (k : Nat) : so_B (S.drop k) := fun x hx => h x (List.mem_of_mem_drop hx)
theorem so_lt (S : List Nat) : so_B S → so_num S < 2 ^ S.length := by
  induction S with
  | nil => intro _; decide
  | cons b S ih =>
    intro h
    have h2 := so_B_cons h
    have := ih h2.2
    rw [so_num_cons, List.length_cons, Nat.pow_succ]
    omega
theorem so_td (S : List Nat) : ∀ k, k ≤ S.length → so_B S → so_num S % 2 ^ k = so_num (S.take k) ∧ so_num S / 2 ^ k = so_num (S.drop k) := by
  induction S with
  | nil =>
    intro k hk _
    have : k = 0 := by
      rw [List.length_nil] at hk
      omega
    subst this
    exact ⟨rfl, rfl⟩
  | cons b S ih =>
    intro k hk h
    cases k with
    | zero =>
      rw [List.take_zero, List.drop_zero, Nat.pow_zero, Nat.mod_one, Nat.div_one]
      exact ⟨rfl, rfl⟩
    | succ k =>
      have h2 := so_B_cons h
      rw [List.length_cons] at hk
      obtain ⟨h3, h4⟩ := ih k (by omega) h2.2
      rw [List.take_succ_cons, List.drop_succ_cons, so_num_cons, so_num_cons, ← h3, ← h4, Nat.pow_succ, Nat.mul_comm (2 ^ k) 2]
      constructor
      · rw [Nat.mod_mul, show (b + 2 * so_num S) % 2 = b by omega, show (b + 2 * so_num S) / 2 = so_num S by omega]
      · rw [← Nat.div_div_eq_div_mul, show (b + 2 * so_num S) / 2 = so_num S by omega]
theorem so_inj (S : List Nat) : ∀ U, S.length = U.length → so_B S → so_B U → so_num S = so_num U → S = U := by
  induction S with
  | nil =>
    intro U h _ _ _
    exact (List.eq_nil_of_length_eq_zero h.symm).symm
  | cons b S ih =>
    intro U h h1 h2 h3
    cases U with
    | nil => cases h
    | cons c U =>
      have b1 := so_B_cons h1
      have b2 := so_B_cons h2
      rw [so_num_cons, so_num_cons] at h3
      rw [List.length_cons, List.length_cons] at h
      rw [ih U (by omega) b1.2 b2.2 (by omega), show b = c by omega]
/-! reading from the end -/
def tm_bk (g : tm_G) : List Nat → Option (List Nat)
  | [] => some []
  | c :: w => match tm_bk g w with
    | none => none
    | some S => match g c with
      | none => none
      | some p => if S.take p.1.length = p.1 then some (p.2 :: S.drop p.1.length) else none
theorem tm_bk_P {g : tm_G} (w : List Nat) : ∀ S, tm_bk g w = some S ↔ tm_P g S w := by
  induction w with
  | nil =>
    intro S
    constructor
    · intro h
      exact (Option.some.inj h).symm
    · intro h
      have h' : S = [] := h
      rw [h']
      rfl
  | cons c w ih =>
    intro S
    rw [tm_bk]
    constructor
    · intro h
      cases hb : tm_bk g w with
      | none => rw [hb] at h; cases h
      | some S1 =>
        rw [hb] at h
        dsimp only at h
        cases hg : g c with
        | none => rw [hg] at h; cases h
        | some p =>
          rw [hg] at h
          dsimp only at h
          by_cases e : S1.take p.1.length = p.1
          · rw [if_pos e] at h
            refine ⟨p.1, p.2, S1.drop p.1.length, hg, (Option.some.inj h).symm, ?_⟩
            have h5 := (ih S1).mp hb
            rw [← List.take_append_drop p.1.length S1, e] at h5
            exact h5
          · rw [if_neg e] at h
            cases h
    · rintro ⟨a, s, S', hg, rfl, hP⟩
      rw [(ih _).mpr hP, hg]
      dsimp only
      rw [List.take_left' rfl, List.drop_left' rfl, if_pos rfl]
/-- the sort of the one term that the text is -/
def tm_ts (g : tm_G) (w : List Nat) : Option Nat := match tm_bk g w with
  | some [s] => some s
  | _ => none
theorem tm_ts_P {g : tm_G} {w : List Nat} {s : Nat} : tm_ts g w = some s ↔ tm_P g [s] w := by
  rw [← tm_bk_P]
  unfold tm_ts
  constructor
  · intro h
    split at h
    · rename_i s2 e
      rw [e, Option.some.inj h]
    · cases h
  · intro h
    rw [h]
theorem tm_ts_no {g : tm_G} {w : List Nat} (h : ∀ s, ¬ tm_P g [s] w) : tm_ts g w = none := by
  cases e : tm_ts g w with
  | none => rfl
  | some s => exact absurd (tm_ts_P.mp e) (h s)
end
section
/-! 05: the signature; values as texts: pure -/
def tm_sg (n : Nat) (A : Nat → List Nat) (Z : Nat → Nat) : tm_G := fun c =>
  if c = 90 then some ([], 0) else if c = 83 then some ([0], 0) else if c = 78 then some ([], 1) else if c = 67 then some ([0, 1], 1)
  else if 97 ≤ c ∧ c ≤ 104 then some ([], 0) else if 112 ≤ c ∧ c ≤ 119 then some ([], 1)
  else if 70 ≤ c ∧ c < 70 + n then some (A (c - 70), Z (c - 70)) else none
def tm_SG (n : Nat) (A : Nat → List Nat) (Z : Nat → Nat) : Prop := n ≤ 8 ∧ ∀ f, f < n → 1 ≤ (A f).length ∧ (A f).length ≤ 3 ∧ so_B (A f) ∧ Z f < 2
theorem tm_sg_90 {n : Nat} {A : Nat → List Nat} {Z : Nat → Nat} : tm_sg n A Z 90 = some ([], 0) := rfl
theorem tm_sg_83 {n : Nat} {A : Nat → List Nat} {Z : Nat → Nat} : tm_sg n A Z 83 = some ([0], 0) := rfl
theorem tm_sg_78 {n : Nat} {A : Nat → List Nat} {Z : Nat → Nat} : tm_sg n A Z 78 = some ([], 1) := rfl
theorem tm_sg_67 {n : Nat} {A : Nat → List Nat} {Z : Nat → Nat} : tm_sg n A Z 67 = some ([0, 1], 1) := rfl
theorem tm_sg_n {n : Nat} {A : Nat → List Nat} {Z : Nat → Nat} {c : Nat} (h : 97 ≤ c ∧ c ≤ 104) : tm_sg n A Z c = some ([], 0) := by
  unfold tm_sg
  rw [if_neg (by omega), if_neg (by omega), if_neg (by omega), if_neg (by omega), if_pos h]
theorem tm_sg_l {n : Nat} {A : Nat → List Nat} {Z : Nat → Nat} {c : Nat} (h : 112 ≤ c ∧ c ≤ 119) : tm_sg n A Z c = some ([], 1) := by
  unfold tm_sg
  rw [if_neg (by omega), if_neg (by omega), if_neg (by omega), if_neg (by omega), if_neg (by omega), if_pos h]
theorem tm_sg_f {n : Nat} {A : Nat → List Nat} {Z : Nat → Nat} {f : Nat} (h : f < n) (hn : n ≤ 8) : tm_sg n A Z (70 + f) = some (A f, Z f) := by
  unfold tm_sg
  rw [if_neg (by omega), if_neg (by omega), if_neg (by omega), if_neg (by omega), if_neg (by omega), if_neg (by omega), if_pos (by omega), show 70 + f - 70 = f by omega]
theorem tm_sg_o {n : Nat} {A : Nat → List Nat} {Z : Nat → Nat} {c : Nat} (h : c ≠ 90 ∧ c ≠ 83 ∧ c ≠ 78 ∧ c ≠ 67) (h1 : ¬ (97 ≤ c ∧ c ≤ 104)) (h2 : ¬ (112 ≤ c ∧ c ≤ 119)) (h3 : ¬ (70 ≤ c ∧ c < 70 + n)) : tm_sg n A Z c = none := by
  unfold tm_sg
  rw [if_neg h.1, if_neg h.2.1, if_neg h.2.2.1, if_neg h.2.2.2, if_neg h1, if_neg h2, if_neg h3]
/-- the seven cases of a code -/
theorem tm_sg_c (n : Nat) (A : Nat → List Nat) (Z : Nat → Nat) (c : Nat) (hn : n ≤ 8) : (c = 90 ∧ tm_sg n A Z c = some ([], 0)) ∨ (c = 83 ∧ tm_sg n A Z c = some ([0], 0)) ∨ (c = 78 ∧ tm_sg n A Z c = some ([], 1)) ∨ (c = 67 ∧ tm_sg n A Z c = some ([0, 1], 1)) ∨ ((97 ≤ c ∧ c ≤ 104) ∧ tm_sg n A Z c = some ([], 0)) ∨ ((112 ≤ c ∧ c ≤ 119) ∧ tm_sg n A Z c = some ([], 1)) ∨ (∃ f, f < n ∧ c = 70 + f ∧ tm_sg n A Z c = some (A f, Z f)) ∨ (tm_sg n A Z c = none ∧ ¬ (70 ≤ c ∧ c < 70 + n) ∧ tm_vn c = none ∧ tm_kd c = none) := by
  by_cases h1 : c = 90
  · exact Or.inl ⟨h1, by rw [h1]; rfl⟩
  by_cases h2 : c = 83
  · exact Or.inr (Or.inl ⟨h2, by rw [h2]; rfl⟩)
  by_cases h3 : c = 78
  · exact Or.inr (Or.inr (Or.inl ⟨h3, by rw [h3]; rfl⟩))
  by_cases h4 : c = 67
  · exact Or.inr (Or.inr (Or.inr (Or.inl ⟨h4, by rw [h4]; rfl⟩)))
  by_cases h5 : 97 ≤ c ∧ c ≤ 104
  · exact Or.inr (Or.inr (Or.inr (Or.inr (Or.inl ⟨h5, tm_sg_n h5⟩))))
  by_cases h6 : 112 ≤ c ∧ c ≤ 119
  · exact Or.inr (Or.inr (Or.inr (Or.inr (Or.inr (Or.inl ⟨h6, tm_sg_l h6⟩)))))
  by_cases h7 : 70 ≤ c ∧ c < 70 + n
  · refine Or.inr (Or.inr (Or.inr (Or.inr (Or.inr (Or.inr (Or.inl ⟨c - 70, by omega, by omega, ?_⟩))))))
    have := tm_sg_f (n := n) (A := A) (Z := Z) (f := c - 70) (by omega) hn
    rwa [show 70 + (c - 70) = c by omega] at this
  · refine Or.inr (Or.inr (Or.inr (Or.inr (Or.inr (Or.inr (Or.inr ⟨tm_sg_o ⟨h1, h2, h3, h4⟩ h5 h6 h7, h7, ?_, ?_⟩))))))
    · unfold tm_vn
      rw [if_neg h5, if_neg h6]
    · unfold tm_kd
      rw [if_neg (by omega), if_neg (by omega)]
theorem tm_sg_b {n : Nat} {A : Nat → List Nat} {Z : Nat → Nat} (hS : tm_SG n A Z) {c s : Nat} {a : List Nat} (h : tm_sg n A Z c = some (a, s)) : a.length ≤ 3 ∧ so_B a ∧ s < 2 ∧ 67 ≤ c ∧ c ≤ 119 := by
  have key : ∀ (a0 : List Nat) (s0 : Nat), tm_sg n A Z c = some (a0, s0) → a0.length ≤ 3 → so_B a0 → s0 < 2 → 67 ≤ c → c ≤ 119 → a.length ≤ 3 ∧ so_B a ∧ s < 2 ∧ 67 ≤ c ∧ c ≤ 119 := by
    intro a0 s0 e h1 h2 h3 h4 h5
    rw [h] at e
    obtain ⟨rfl, rfl⟩ := Prod.mk.inj (Option.some.inj e)
    exact ⟨h1, h2, h3, h4, h5⟩
  have b0 : so_B [] := fun x hx => nomatch hx
  have b1 : so_B [0] := so_B_mk (by decide) b0
  have b2 : so_B [0, 1] := so_B_mk (by decide) (so_B_mk (by decide) b0)
  rcases tm_sg_c n A Z c hS.1 with ⟨e, q⟩ | ⟨e, q⟩ | ⟨e, q⟩ | ⟨e, q⟩ | ⟨e, q⟩ | ⟨e, q⟩ | ⟨f, hf, e, q⟩ | ⟨q, _⟩
  · exact key _ _ q (by decide) b0 (by decide) (by omega) (by omega)
  · exact key _ _ q (by decide) b1 (by decide) (by omega) (by omega)
  · exact key _ _ q (by decide) b0 (by decide) (by omega) (by omega)
  · exact key _ _ q (by decide) b2 (by decide) (by omega) (by omega)
  · exact key _ _ q (by decide) b0 (by decide) (by omega) (by omega)
  · exact key _ _ q (by decide) b0 (by decide) (by omega) (by omega)
  · have hn := hS.1
    obtain ⟨_, h1, h2, h3⟩ := hS.2 f hf
    exact key _ _ q h1 h2 h3 (by omega) (by omega)
  · rw [h] at q
    cases q
theorem tm_sg_V {n : Nat} {A : Nat → List Nat} {Z : Nat → Nat} {c v : Nat} (h : tm_vn c = some v) : tm_sg n A Z c = some ([], if v < 8 then 0 else 1) := by
  obtain ⟨e, hv⟩ := tm_vn_ch h
  subst e
  unfold tm_vc
  by_cases h8 : v < 8
  · rw [if_pos h8, if_pos h8]
    exact tm_sg_n (by omega)
  · rw [if_neg h8, if_neg h8]
    exact tm_sg_l (by omega)
theorem tm_sg_GS {n : Nat} {A : Nat → List Nat} {Z : Nat → Nat} (hS : tm_SG n A Z) : tm_GS (tm_sg n A Z) := by
  refine ⟨fun c v h => ⟨_, tm_sg_V h⟩, ?_, ?_⟩
  · intro c d k a a' s hc hd h1 h2
    rcases tm_kd_c hc with ⟨k0, e | e⟩ | ⟨k0, e | e⟩ <;> rcases tm_kd_c hd with ⟨k1, e' | e'⟩ | ⟨k1, e' | e'⟩ <;> subst e <;> subst e' <;> first
      | rfl
      | (exfalso; omega)
      | (exfalso
         first
           | rw [tm_sg_90] at h1
           | rw [tm_sg_78] at h1
           | rw [tm_sg_83] at h1
           | rw [tm_sg_67] at h1
         first
           | rw [tm_sg_90] at h2
           | rw [tm_sg_78] at h2
           | rw [tm_sg_83] at h2
           | rw [tm_sg_67] at h2
         have e1 := (Prod.mk.inj (Option.some.inj h1)).2
         have e2 := (Prod.mk.inj (Option.some.inj h2)).2
         omega)
  · intro c a s hf h
    have hn := hS.1
    rcases tm_sg_c n A Z c hS.1 with ⟨e, q⟩ | ⟨e, q⟩ | ⟨e, q⟩ | ⟨e, q⟩ | ⟨e, q⟩ | ⟨e, q⟩ | ⟨f, hf, e, q⟩ | ⟨q, _⟩
    · omega
    · omega
    · omega
    · omega
    · omega
    · omega
    · rw [h] at q
      obtain ⟨rfl, _⟩ := Prod.mk.inj (Option.some.inj q)
      intro z
      have := (hS.2 f hf).1
      rw [z] at this
      exact absurd this (by decide)
    · rw [h] at q
      cases q
theorem tm_sg_mono {n n' : Nat} {A A' : Nat → List Nat} {Z Z' : Nat → Nat} (hn : n ≤ n') (hn' : n' ≤ 8) (hA : ∀ f, f < n → A' f = A f ∧ Z' f = Z f) : ∀ c p, tm_sg n A Z c = some p → tm_sg n' A' Z' c = some p := by
  intro c p h
  rcases tm_sg_c n A Z c (by omega) with ⟨e, q⟩ | ⟨e, q⟩ | ⟨e, q⟩ | ⟨e, q⟩ | ⟨e, q⟩ | ⟨e, q⟩ | ⟨f, hf, e, q⟩ | ⟨q, _⟩ <;> rw [h] at q
  · rw [q, e]; rfl
  · rw [q, e]; rfl
  · rw [q, e]; rfl
  · rw [q, e]; rfl
  · rw [q]; exact tm_sg_n e
  · rw [q]; exact tm_sg_l e
  · rw [q, e, tm_sg_f (by omega) hn', (hA f hf).1, (hA f hf).2]
  · cases q
/-! values -/
def tm_nu (k : Nat) : List Nat := List.replicate k 83 ++ [90]
def tm_el (e : Nat → Nat) : Nat → List Nat
  | 0 => []
  | k + 1 => tm_el e k ++ (67 :: tm_nu (e k))
def tm_vl (val : Nat → Nat) (el : Nat → Nat → Nat) (v : Nat) : List Nat := if v < 8 then tm_nu (val v) else tm_el (el v) (val v) ++ [78]
theorem tm_nu_P {n : Nat} {A : Nat → List Nat} {Z : Nat → Nat} (k : Nat) : tm_P (tm_sg n A Z) [0] (tm_nu k) := by
  induction k with
  | zero => exact ⟨[], 0, [], rfl, rfl, rfl⟩
  | succ k ih => exact ⟨[0], 0, [], rfl, rfl, ih⟩
theorem tm_el_P {n : Nat} {A : Nat → List Nat} {Z : Nat → Nat} (e : Nat → Nat) (k : Nat) : ∀ u, tm_P (tm_sg n A Z) [1] u → tm_P (tm_sg n A Z) [1] (tm_el e k ++ u) := by
  induction k with
  | zero => exact fun u h => h
  | succ k ih =>
    intro u h
    show tm_P (tm_sg n A Z) [1] ((tm_el e k ++ (67 :: tm_nu (e k))) ++ u)
    rw [List.append_assoc]
    apply ih
    exact ⟨[0, 1], 1, [], rfl, rfl, tm_P_app h _ [0] (tm_nu_P (e k))⟩
theorem tm_vl_P {n : Nat} {A : Nat → List Nat} {Z : Nat → Nat} (val : Nat → Nat) (el : Nat → Nat → Nat) (v : Nat) : tm_P (tm_sg n A Z) [if v < 8 then 0 else 1] (tm_vl val el v) := by
  unfold tm_vl
  by_cases h : v < 8
  · rw [if_pos h, if_pos h]
    exact tm_nu_P _
  · rw [if_neg h, if_neg h]
    exact tm_el_P _ _ _ ⟨[], 1, [], rfl, rfl, rfl⟩
theorem tm_nu_mem {k c : Nat} (h : c ∈ tm_nu k) : c = 83 ∨ c = 90 := by
  rcases List.mem_append.mp h with h | h
  · exact Or.inl (List.eq_of_mem_replicate h)
  · exact Or.inr (List.mem_singleton.mp h)
theorem tm_el_mem {e : Nat → Nat} {c : Nat} (k : Nat) : c ∈ tm_el e k → c = 83 ∨ c = 90 ∨ c = 67 := by
  induction k with
  | zero => exact fun h => nomatch h
  | succ k ih =>
    intro h
    rcases List.mem_append.mp h with h | h
    · exact ih h
    · rcases List.mem_cons.mp h with h | h
      · exact Or.inr (Or.inr h)
      · rcases tm_nu_mem h with h | h
        · exact Or.inl h
        · exact Or.inr (Or.inl h)
theorem tm_vl_mem {val : Nat → Nat} {el : Nat → Nat → Nat} {v c : Nat} (h : c ∈ tm_vl val el v) : c = 83 ∨ c = 90 ∨ c = 67 ∨ c = 78 := by
  unfold tm_vl at h
  by_cases h8 : v < 8
  · rw [if_pos h8] at h
    rcases tm_nu_mem h with h | h <;> omega
  · rw [if_neg h8] at h
    rcases List.mem_append.mp h with h | h
    · rcases tm_el_mem _ h with h | h | h <;> omega
    · have := List.mem_singleton.mp h
      omega
theorem tm_vl_pos (val : Nat → Nat) (el : Nat → Nat → Nat) (v : Nat) : 1 ≤ (tm_vl val el v).length := by
  have h := tm_vl_P (n := 0) (A := fun _ => []) (Z := fun _ => 0) val el v
  exact tm_P_ne h
/-- one symbol's text, the variables below k replaced -/
def tm_g1 (val : Nat → Nat) (el : Nat → Nat → Nat) (k c : Nat) : List Nat := match tm_vn c with
  | some v => if v < k then tm_vl val el v else [c]
  | none => [c]
def tm_gk (val : Nat → Nat) (el : Nat → Nat → Nat) (k : Nat) (w : List Nat) : List Nat := w.flatMap (tm_g1 val el k)
theorem tm_g1_n {val : Nat → Nat} {el : Nat → Nat → Nat} {k c : Nat} (h : tm_vn c = none) : tm_g1 val el k c = [c] := by
  unfold tm_g1
  rw [h]
theorem tm_g1_v {val : Nat → Nat} {el : Nat → Nat → Nat} {k c v : Nat} (h : tm_vn c = some v) (hk : v < k) : tm_g1 val el k c = tm_vl val el v := by
  unfold tm_g1
  rw [h]
  exact if_pos hk
theorem tm_g1_o {val : Nat → Nat} {el : Nat → Nat → Nat} {k c v : Nat} (h : tm_vn c = some v) (hk : ¬ v < k) : tm_g1 val el k c = [c] := by
  unfold tm_g1
  rw [h]
  exact if_neg hk
theorem tm_gk_0 (val : Nat → Nat) (el : Nat → Nat → Nat) (w : List Nat) : tm_gk val el 0 w = w := by
  induction w with
  | nil => rfl
  | cons c w ih =>
    show tm_g1 val el 0 c ++ tm_gk val el 0 w = c :: w
    rw [ih]
    cases h : tm_vn c with
    | none => rw [tm_g1_n h]; rfl
    | some v => rw [tm_g1_o h (Nat.not_lt_zero _)]; rfl
theorem tm_fm_id {f : Nat → List Nat} (w : List Nat) : (∀ c, c ∈ w → f c = [c]) → w.flatMap f = w := by
  induction w with
  | nil => exact fun _ => rfl
  | cons c w ih =>
    intro h
    rw [List.flatMap_cons, h c List.mem_cons_self, ih (fun d hd => h d (List.mem_cons_of_mem _ hd))]
    rfl
theorem tm_gk_s (val : Nat → Nat) (el : Nat → Nat → Nat) {k : Nat} (hk : k < 16) (w : List Nat) : (tm_gk val el k w).flatMap (fun c => if c = tm_vc k then tm_vl val el k else [c]) = tm_gk val el (k + 1) w := by
  induction w with
  | nil => rfl
  | cons c w ih =>
    show (tm_g1 val el k c ++ tm_gk val el k w).flatMap _ = tm_g1 val el (k + 1) c ++ tm_gk val el (k + 1) w
    rw [List.flatMap_append, ih]
    congr 1
    have hvk := tm_vn_vc hk
    cases h : tm_vn c with
    | none =>
      rw [tm_g1_n h, tm_g1_n h]
      apply tm_fm_id
      intro d hd
      rw [List.mem_singleton.mp hd, if_neg]
      intro e
      rw [e, hvk] at h
      cases h
    | some v =>
      by_cases h1 : v < k
      · rw [tm_g1_v h h1, tm_g1_v h (by omega)]
        apply tm_fm_id
        intro d hd
        have hm := tm_vl_mem hd
        rw [if_neg]
        unfold tm_vc
        split <;> omega
      · rw [tm_g1_o h h1]
        by_cases h2 : v = k
        · subst h2
          rw [tm_g1_v h (by omega), List.flatMap_singleton, if_pos (tm_vn_ch h).1]
        · rw [tm_g1_o h (by omega), List.flatMap_singleton, if_neg]
          intro e
          rw [e, hvk] at h
          exact h2 (Option.some.inj h).symm
theorem tm_fm_le {f : Nat → List Nat} (hf : ∀ c, 1 ≤ (f c).length) (w : List Nat) : w.length ≤ (w.flatMap f).length := by
  induction w with
  | nil => exact Nat.zero_le _
  | cons c w ih =>
    rw [List.flatMap_cons, List.length_append, List.length_cons]
    have := hf c
    omega
theorem tm_gk_le (val : Nat → Nat) (el : Nat → Nat → Nat) {k : Nat} (hk : k < 16) (w : List Nat) : (tm_gk val el k w).length ≤ (tm_gk val el (k + 1) w).length := by
  rw [← tm_gk_s val el hk w]
  apply tm_fm_le
  intro c
  by_cases h : c = tm_vc k
  · rw [if_pos h]
    exact tm_vl_pos _ _ _
  · rw [if_neg h]
    exact Nat.le_refl _
theorem tm_gk_mem {val : Nat → Nat} {el : Nat → Nat → Nat} {k c : Nat} (w : List Nat) : c ∈ tm_gk val el k w → c ∈ w ∨ c = 83 ∨ c = 90 ∨ c = 67 ∨ c = 78 := by
  induction w with
  | nil => exact fun h => Or.inl h
  | cons d w ih =>
    intro h
    have h' : c ∈ tm_g1 val el k d ++ tm_gk val el k w := h
    rcases List.mem_append.mp h' with h1 | h1
    · cases hv : tm_vn d with
      | none =>
        rw [tm_g1_n hv] at h1
        rw [List.mem_singleton.mp h1]
        exact Or.inl List.mem_cons_self
      | some v =>
        by_cases hk : v < k
        · rw [tm_g1_v hv hk] at h1
          exact Or.inr (tm_vl_mem h1)
        · rw [tm_g1_o hv hk] at h1
          rw [List.mem_singleton.mp h1]
          exact Or.inl List.mem_cons_self
    · rcases ih h1 with h2 | h2
      · exact Or.inl (List.mem_cons_of_mem _ h2)
      · exact Or.inr h2
theorem tm_gk_P {n : Nat} {A : Nat → List Nat} {Z : Nat → Nat} {val : Nat → Nat} {el : Nat → Nat → Nat} {k : Nat} (w : List Nat) : ∀ S, tm_P (tm_sg n A Z) S w → tm_P (tm_sg n A Z) S (tm_gk val el k w) := by
  induction w with
  | nil => exact fun S h => h
  | cons c w ih =>
    intro S h
    obtain ⟨a, s, S', hg, rfl, hP⟩ := h
    have hi := ih _ hP
    show tm_P (tm_sg n A Z) (s :: S') (tm_g1 val el k c ++ tm_gk val el k w)
    have hc : ∀ (h : tm_g1 val el k c = [c]), tm_P (tm_sg n A Z) (s :: S') (tm_g1 val el k c ++ tm_gk val el k w) := by
      intro h
      rw [h]
      exact ⟨a, s, S', hg, rfl, hi⟩
    cases hv : tm_vn c with
    | none => exact hc (tm_g1_n hv)
    | some v =>
      by_cases hk : v < k
      · rw [tm_g1_v hv hk]
        rw [tm_sg_V hv] at hg
        obtain ⟨rfl, rfl⟩ := Prod.mk.inj (Option.some.inj hg)
        exact tm_P_app hi _ [if v < 8 then 0 else 1] (tm_vl_P val el v)
      · exact hc (tm_g1_o hv hk)
end
section
/-! 06: sets of variables as bits; ints that are small naturals -/
theorem vb_or (a b : Nat) : nI a ||| nI b = nI (a ||| b) := by
  apply Int32.toBitVec_inj.1
  show BitVec.ofNat 32 a ||| BitVec.ofNat 32 b = BitVec.ofNat 32 (a ||| b)
  apply BitVec.eq_of_getLsbD_eq
  intro i hi
  simp [hi]
theorem vb_cnt : ∀ v, v < 32 → ((nI v &&& 31).toBitVec.smod 32).toNat = v := by decide +kernel
theorem vb_one {v : Nat} (h : v < 16) : (1 : Int32) <<< (nI v &&& 31) = nI (2 ^ v) := by
  have := pk_shlN (n := 1) (nI v &&& 31) v (vb_cnt v (by omega)) (by
    rw [Nat.one_mul]
    exact Nat.pow_lt_pow_right (by decide) (by omega))
  rw [Nat.one_mul] at this
  exact this
theorem vb_bit {k v : Nat} (hk : k < 65536) (hv : v < 16) : (nI k >>> (nI v &&& 31)) &&& 1 = nI (k / 2 ^ v % 2) := by
  rw [pk_shrN (by omega) (nI v &&& 31) v (vb_cnt v (by omega))]
  have h2 : k / 2 ^ v ≤ k := Nat.div_le_self _ _
  exact pk_andN (by omega) 1 rfl
theorem vb_tb (k v : Nat) : k / 2 ^ v % 2 = if k.testBit v = true then 1 else 0 := by
  rw [Nat.testBit_eq_decide_div_mod_eq]
  by_cases h : k / 2 ^ v % 2 = 1
  · rw [if_pos (decide_eq_true h), h]
  · rw [if_neg (by rw [decide_eq_true_eq]; exact h)]
    omega
/-- k is the set of the variables that p holds of -/
def vb_S (k : Nat) (p : Nat → Prop) : Prop := k < 65536 ∧ ∀ v, v < 16 → (k.testBit v = true ↔ p v)
theorem vb_S_0 : vb_S 0 (fun _ => False) := ⟨by decide, fun v _ => by rw [Nat.zero_testBit]; exact ⟨fun h => (nomatch h), fun h => h.elim⟩⟩
theorem vb_S_or {a b : Nat} {p q : Nat → Prop} (ha : vb_S a p) (hb : vb_S b q) : vb_S (a ||| b) (fun v => p v ∨ q v) := by
  refine ⟨Nat.or_lt_two_pow (n := 16) ha.1 hb.1, fun v hv => ?_⟩
  rw [Nat.testBit_or, Bool.or_eq_true, ha.2 v hv, hb.2 v hv]
theorem vb_S_one {u : Nat} (h : u < 16) : vb_S (2 ^ u) (fun v => v = u) := by
  refine ⟨(Nat.pow_lt_pow_right (by decide) h : 2 ^ u < 2 ^ 16), fun v hv => ?_⟩
  rw [Nat.testBit_two_pow, decide_eq_true_eq]
  exact ⟨fun e => e.symm, fun e => e.symm⟩
theorem vb_S_iff {a : Nat} {p q : Nat → Prop} (h : ∀ v, v < 16 → (p v ↔ q v)) (ha : vb_S a p) : vb_S a q := ⟨ha.1, fun v hv => (ha.2 v hv).trans (h v hv)⟩
theorem vb_S_bit {k v : Nat} {p : Nat → Prop} (h : vb_S k p) (hv : v < 16) : ((nI k >>> (nI v &&& 31)) &&& 1 = 0 ↔ ¬ p v) ∧ ((nI k >>> (nI v &&& 31)) &&& 1 = 1 ↔ p v) := by
  rw [vb_bit h.1 hv, vb_tb]
  by_cases hp : k.testBit v = true
  · rw [if_pos hp]
    have := (h.2 v hv).mp hp
    exact ⟨⟨fun z => absurd z (by decide), fun z => absurd this z⟩, ⟨fun _ => this, fun _ => rfl⟩⟩
  · rw [if_neg hp]
    have : ¬ p v := fun z => hp ((h.2 v hv).mpr z)
    exact ⟨⟨fun _ => this, fun _ => rfl⟩, ⟨fun z => absurd z (by decide), fun z => absurd z this⟩⟩
theorem vb_not (b : Nat) (hb : b < 65536) (i : Nat) (hi : i < 32) : (nI b ^^^ (-1)).toBitVec.getLsbD i = !(b.testBit i) := by
  show (BitVec.ofNat 32 b ^^^ (-1#32)).getLsbD i = _
  rw [BitVec.getLsbD_xor, BitVec.getLsbD_ofNat, show (-1#32 : BitVec 32) = BitVec.allOnes 32 from rfl, BitVec.getLsbD_allOnes]
  simp [hi]
theorem vb_diff {a b : Nat} {p q : Nat → Prop} (ha : vb_S a p) (hb : vb_S b q) : nI a &&& (nI b ^^^ (-1)) = 0 ↔ ∀ v, v < 16 → p v → q v := by
  constructor
  · intro h v hv hp
    have h1 : (nI a &&& (nI b ^^^ (-1))).toBitVec.getLsbD v = false := by
      rw [h]
      exact BitVec.getLsbD_zero
    rw [Int32.toBitVec_and, BitVec.getLsbD_and, vb_not b hb.1 v (by omega)] at h1
    have h2 : (nI a).toBitVec.getLsbD v = true := by
      show (BitVec.ofNat 32 a).getLsbD v = true
      rw [BitVec.getLsbD_ofNat, (ha.2 v hv).mpr hp]
      simp
      omega
    rw [h2, Bool.true_and] at h1
    apply (hb.2 v hv).mp
    cases e : b.testBit v with
    | true => rfl
    | false => rw [e] at h1; cases h1
  · intro h
    apply Int32.toBitVec_inj.1
    apply BitVec.eq_of_getLsbD_eq
    intro i hi
    rw [Int32.toBitVec_and, BitVec.getLsbD_and, vb_not b hb.1 i hi]
    show ((BitVec.ofNat 32 a).getLsbD i && !b.testBit i) = (0#32).getLsbD i
    rw [BitVec.getLsbD_ofNat, BitVec.getLsbD_zero]
    by_cases hi16 : i < 16
    · cases e : a.testBit i with
      | false => simp
      | true =>
        rw [(hb.2 i hi16).mpr (h i hi16 ((ha.2 i hi16).mp e))]
        simp
    · rw [Nat.testBit_lt_two_pow (Nat.lt_of_lt_of_le ha.1 (Nat.pow_le_pow_right (n := 2) (i := 16) (by decide) (by omega)))]
      simp
end
section
/-! 07: what every state keeps of its texts: pure -/
theorem iv_cp_ext {R R' : Nat → List Nat} {c : Nat} (h : ∀ i, i < 32 → R i ≠ [] → R' i ≠ []) (hc : tm_fn c) (hp : tm_cp R c) : tm_cp R' c := ⟨h _ (by omega) hp.1, h _ (by omega) hp.2⟩
theorem iv_FC_ext {R R' : Nat → List Nat} {w : List Nat} (h : ∀ i, i < 32 → R i ≠ [] → R' i ≠ []) (hF : tm_FC R w) : tm_FC R' w := fun c hc hf => iv_cp_ext h hf (hF c hc hf)
theorem iv_eqne {R R' : Nat → List Nat} (h : ∀ i, i < 32 → R' i = R i) : ∀ i, i < 32 → R i ≠ [] → R' i ≠ [] := fun i hi hn => by rw [h i hi]; exact hn
def iv_E (g : tm_G) (R : Nat → List Nat) (u w : List Nat) : Prop := ∃ s, tm_P g [s] u ∧ tm_P g [s] w ∧ tm_FC R u ∧ tm_FC R w ∧ u.length ≤ 48 ∧ w.length ≤ 48
theorem iv_E_mono {g g' : tm_G} {R R' : Nat → List Nat} {u w : List Nat} (hg : ∀ c p, g c = some p → g' c = some p) (hR : ∀ i, i < 32 → R i ≠ [] → R' i ≠ []) (h : iv_E g R u w) : iv_E g' R' u w := by
  obtain ⟨s, h1, h2, h3, h4, h5, h6⟩ := h
  exact ⟨s, tm_P_mono hg _ _ h1, tm_P_mono hg _ _ h2, iv_FC_ext hR h3, iv_FC_ext hR h4, h5, h6⟩
theorem iv_E_ext {g : tm_G} {R R' : Nat → List Nat} {u w : List Nat} (hR : ∀ i, i < 32 → R' i = R i) (h : iv_E g R u w) : iv_E g R' u w := iv_E_mono (fun _ _ h => h) (iv_eqne hR) h
theorem iv_RW_mono {g g' : tm_G} {R R' : Nat → List Nat} {f k : Nat} (hf : f < 8) (hk : k < 2) (hg : ∀ c p, g c = some p → g' c = some p) (hR : ∀ i, i < 32 → R i ≠ [] → R' i ≠ []) (e1 : R' (4 * f + 2 * k) = R (4 * f + 2 * k)) (e2 : R' (4 * f + 2 * k + 1) = R (4 * f + 2 * k + 1)) (h : tm_RW g R f k) : tm_RW g' R' f k := by
  obtain ⟨K, vs, s, h1, h2, h3, h4, h5, h6, h7⟩ := h
  refine ⟨K, vs, s, ?_, h2, h3, h4, ?_, ?_, ?_⟩
  · rw [e1]; exact h1
  · rw [e1]; exact tm_P_mono hg _ _ h5
  · rw [e2]; exact tm_P_mono hg _ _ h6
  · rw [e2]
    intro c hc hf2
    rcases h7 c hc hf2 with h | h
    · exact Or.inl h
    · exact Or.inr (iv_cp_ext hR hf2 h)
theorem iv_RU_mono {g g' : tm_G} {R R' : Nat → List Nat} (hg : ∀ c p, g c = some p → g' c = some p) (hR : ∀ i, i < 32 → R' i = R i) (h : tm_RU g R) : tm_RU g' R' := by
  intro f k hf hk hne
  rw [hR _ (by omega)] at hne
  exact iv_RW_mono hf hk hg (iv_eqne hR) (hR _ (by omega)) (hR _ (by omega)) (h f k hf hk hne)
/-- the texts of a state: buffer, formulas, rules, goals -/
def iv_R (m : Nat → List Nat) : Nat → List Nat := fun i => m (17 + i)
def iv_Wf (n : Nat) (A : Nat → List Nat) (Z : Nat → Nat) (q : Nat) (m : Nat → List Nat) : Prop :=
  (∀ k, k < q → iv_E (tm_sg n A Z) (iv_R m) (m (1 + 2 * k)) (m (1 + 2 * k + 1))) ∧ (∀ i, 2 * q ≤ i → i < 16 → m (1 + i) = [])
def iv_Wr (n : Nat) (A : Nat → List Nat) (Z : Nat → Nat) (m : Nat → List Nat) : Prop :=
  tm_RU (tm_sg n A Z) (iv_R m) ∧ (∀ f k, f < 8 → k < 2 → (iv_R m (4 * f + 2 * k) ≠ [] → f < n) ∧ (iv_R m (4 * f + 2 * k) = [] → iv_R m (4 * f + 2 * k + 1) = [])) ∧ (∀ i, i < 32 → (iv_R m i).length ≤ 48)
def iv_Wg (n : Nat) (A : Nat → List Nat) (Z : Nat → Nat) (ng : Nat) (hy : Nat → Bool) (m : Nat → List Nat) : Prop :=
  ∀ j, j < ng → iv_E (tm_sg n A Z) (iv_R m) (m (49 + 4 * j)) (m (49 + 4 * j + 1)) ∧ (hy j = true → iv_E (tm_sg n A Z) (iv_R m) (m (49 + 4 * j + 2)) (m (49 + 4 * j + 3))) ∧ (hy j = false → m (49 + 4 * j + 2) = [] ∧ m (49 + 4 * j + 3) = [])
def iv_W (n : Nat) (A : Nat → List Nat) (Z : Nat → Nat) (q ng : Nat) (hy : Nat → Bool) (m : Nat → List Nat) : Prop :=
  tm_SG n A Z ∧ q ≤ 8 ∧ ng ≤ 8 ∧ (m 0).length ≤ 48 ∧ iv_Wf n A Z q m ∧ iv_Wr n A Z m ∧ iv_Wg n A Z ng hy m
theorem iv_Wf_ext {n : Nat} {A : Nat → List Nat} {Z : Nat → Nat} {q : Nat} {m m' : Nat → List Nat} (hq : q ≤ 8) (h : ∀ s, 1 ≤ s → s < 49 → m' s = m s) (hW : iv_Wf n A Z q m) : iv_Wf n A Z q m' := by
  refine ⟨fun k hk => ?_, fun i h1 h2 => ?_⟩
  · rw [h _ (by omega) (by omega), h _ (by omega) (by omega)]
    exact iv_E_ext (fun i hi => h _ (by omega) (by omega)) (hW.1 k hk)
  · rw [h _ (by omega) (by omega)]
    exact hW.2 i h1 h2
theorem iv_Wr_ext {n : Nat} {A : Nat → List Nat} {Z : Nat → Nat} {m m' : Nat → List Nat} (h : ∀ s, 17 ≤ s → s < 49 → m' s = m s) (hW : iv_Wr n A Z m) : iv_Wr n A Z m' := by
  have hR : ∀ i, i < 32 → iv_R m' i = iv_R m i := fun i hi => h _ (by omega) (by omega)
  refine ⟨iv_RU_mono (fun _ _ h => h) hR hW.1, fun f k hf hk => ?_, fun i hi => ?_⟩
  · rw [hR _ (by omega), hR _ (by omega)]
    exact hW.2.1 f k hf hk
  · rw [hR i hi]
    exact hW.2.2 i hi
theorem iv_Wg_ext {n : Nat} {A : Nat → List Nat} {Z : Nat → Nat} {ng : Nat} {hy : Nat → Bool} {m m' : Nat → List Nat} (hg : ng ≤ 8) (h : ∀ s, 17 ≤ s → s < 81 → m' s = m s) (hW : iv_Wg n A Z ng hy m) : iv_Wg n A Z ng hy m' := by
  intro j hj
  have hR : ∀ i, i < 32 → iv_R m' i = iv_R m i := fun i hi => h _ (by omega) (by omega)
  obtain ⟨h1, h2, h3⟩ := hW j hj
  rw [h _ (by omega) (by omega), h _ (by omega) (by omega), h _ (by omega) (by omega), h _ (by omega) (by omega)]
  exact ⟨iv_E_ext hR h1, fun z => iv_E_ext hR (h2 z), h3⟩
theorem iv_W_ext {n : Nat} {A : Nat → List Nat} {Z : Nat → Nat} {q ng : Nat} {hy : Nat → Bool} {m m' : Nat → List Nat} (h : ∀ s, 1 ≤ s → s < 81 → m' s = m s) (h0 : (m' 0).length ≤ 48) (hW : iv_W n A Z q ng hy m) : iv_W n A Z q ng hy m' := by
  obtain ⟨h1, h2, h3, _, h5, h6, h7⟩ := hW
  exact ⟨h1, h2, h3, h0, iv_Wf_ext h2 (fun s a b => h s a (by omega)) h5, iv_Wr_ext (fun s a b => h s (by omega) (by omega)) h6, iv_Wg_ext h3 (fun s a b => h s (by omega) b) h7⟩
/-- new goals over the same formulas and rules -/
theorem iv_W_goals {n : Nat} {A : Nat → List Nat} {Z : Nat → Nat} {q ng ng' : Nat} {hy hy' : Nat → Bool} {m m' : Nat → List Nat} (h : ∀ s, 1 ≤ s → s < 49 → m' s = m s) (h0 : (m' 0).length ≤ 48) (hg : ng' ≤ 8) (hW : iv_W n A Z q ng hy m)
    (hn : ∀ j, j < ng' → iv_E (tm_sg n A Z) (iv_R m) (m' (49 + 4 * j)) (m' (49 + 4 * j + 1)) ∧ (hy' j = true → iv_E (tm_sg n A Z) (iv_R m) (m' (49 + 4 * j + 2)) (m' (49 + 4 * j + 3))) ∧ (hy' j = false → m' (49 + 4 * j + 2) = [] ∧ m' (49 + 4 * j + 3) = [])) : iv_W n A Z q ng' hy' m' := by
  obtain ⟨h1, h2, _, _, h5, h6, h7⟩ := hW
  have hR : ∀ i, i < 32 → iv_R m' i = iv_R m i := fun i hi => h _ (by omega) (by omega)
  refine ⟨h1, h2, hg, h0, iv_Wf_ext h2 h h5, iv_Wr_ext (fun s a b => h s (by omega) b) h6, fun j hj => ?_⟩
  obtain ⟨a1, a2, a3⟩ := hn j hj
  exact ⟨iv_E_ext hR a1, fun z => iv_E_ext hR (a2 z), a3⟩
/-- one more function -/
theorem iv_W_decl {n : Nat} {A A' : Nat → List Nat} {Z Z' : Nat → Nat} {q ng : Nat} {hy : Nat → Bool} {m : Nat → List Nat} (hS : tm_SG (n + 1) A' Z') (hA : ∀ f, f < n → A' f = A f ∧ Z' f = Z f) (hW : iv_W n A Z q ng hy m) : iv_W (n + 1) A' Z' q ng hy m := by
  have hg := tm_sg_mono (Nat.le_succ n) hS.1 hA
  obtain ⟨h1, h2, h3, h4, h5, h6, h7⟩ := hW
  refine ⟨hS, h2, h3, h4, ⟨fun k hk => iv_E_mono hg (fun _ _ h => h) (h5.1 k hk), h5.2⟩, ⟨iv_RU_mono hg (fun _ _ => rfl) h6.1, fun f k hf hk => ⟨fun z => Nat.lt_succ_of_lt ((h6.2.1 f k hf hk).1 z), (h6.2.1 f k hf hk).2⟩, h6.2.2⟩, fun j hj => ?_⟩
  obtain ⟨a1, a2, a3⟩ := h7 j hj
  exact ⟨iv_E_mono hg (fun _ _ h => h) a1, fun z => iv_E_mono hg (fun _ _ h => h) (a2 z), a3⟩
/-- one more rule -/
theorem iv_W_rule {n : Nat} {A : Nat → List Nat} {Z : Nat → Nat} {q ng : Nat} {hy : Nat → Bool} {m m' : Nat → List Nat} {f k : Nat} (hf : f < 8) (hk : k < 2) (hfn : f < n) (hno : m (17 + (4 * f + 2 * k)) = [])
    (h : ∀ s, 1 ≤ s → s < 81 → s ≠ 17 + (4 * f + 2 * k) → s ≠ 17 + (4 * f + 2 * k + 1) → m' s = m s) (h0 : (m' 0).length ≤ 48)
    (hl : (m' (17 + (4 * f + 2 * k))).length ≤ 48) (hr : (m' (17 + (4 * f + 2 * k + 1))).length ≤ 48)
    (hW : iv_W n A Z q ng hy m) (hN : tm_RW (tm_sg n A Z) (iv_R m') f k) : iv_W n A Z q ng hy m' := by
  obtain ⟨h1, h2, h3, _, h5, h6, h7⟩ := hW
  have hR : ∀ i, i < 32 → i ≠ 4 * f + 2 * k → i ≠ 4 * f + 2 * k + 1 → iv_R m' i = iv_R m i := fun i hi n1 n2 => h _ (by omega) (by omega) (by omega) (by omega)
  have hno2 : iv_R m (4 * f + 2 * k + 1) = [] := (h6.2.1 f k hf hk).2 hno
  have hne : ∀ i, i < 32 → iv_R m i ≠ [] → iv_R m' i ≠ [] := by
    intro i hi hn
    by_cases e1 : i = 4 * f + 2 * k
    · subst e1
      exact absurd hno hn
    · by_cases e2 : i = 4 * f + 2 * k + 1
      · subst e2
        exact absurd hno2 hn
      · rw [hR i hi e1 e2]
        exact hn
  have hid : ∀ c p, tm_sg n A Z c = some p → tm_sg n A Z c = some p := fun _ _ h => h
  refine ⟨h1, h2, h3, h0, ⟨fun j hj => ?_, fun i a b => ?_⟩, ⟨?_, ?_, ?_⟩, fun j hj => ?_⟩
  · rw [h _ (by omega) (by omega) (by omega) (by omega), h _ (by omega) (by omega) (by omega) (by omega)]
    exact iv_E_mono hid hne (h5.1 j hj)
  · rw [h _ (by omega) (by omega) (by omega) (by omega)]
    exact h5.2 i a b
  · intro f2 k2 hf2 hk2 hn2
    by_cases e : f2 = f ∧ k2 = k
    · rw [e.1, e.2]
      exact hN
    · have e1 : 4 * f2 + 2 * k2 ≠ 4 * f + 2 * k := by omega
      have e2 : 4 * f2 + 2 * k2 ≠ 4 * f + 2 * k + 1 := by omega
      have e3 : 4 * f2 + 2 * k2 + 1 ≠ 4 * f + 2 * k := by omega
      have e4 : 4 * f2 + 2 * k2 + 1 ≠ 4 * f + 2 * k + 1 := by omega
      have r1 := hR (4 * f2 + 2 * k2) (by omega) e1 e2
      have r2 := hR (4 * f2 + 2 * k2 + 1) (by omega) e3 e4
      rw [r1] at hn2
      exact iv_RW_mono hf2 hk2 hid hne r1 r2 (h6.1 f2 k2 hf2 hk2 hn2)
  · intro f2 k2 hf2 hk2
    by_cases e : f2 = f ∧ k2 = k
    · rw [e.1, e.2]
      refine ⟨fun _ => hfn, fun z => ?_⟩
      obtain ⟨K, vs, s, q1, _⟩ := hN
      rw [z] at q1
      cases q1
    · have e1 : 4 * f2 + 2 * k2 ≠ 4 * f + 2 * k := by omega
      have e2 : 4 * f2 + 2 * k2 ≠ 4 * f + 2 * k + 1 := by omega
      have e3 : 4 * f2 + 2 * k2 + 1 ≠ 4 * f + 2 * k := by omega
      have e4 : 4 * f2 + 2 * k2 + 1 ≠ 4 * f + 2 * k + 1 := by omega
      rw [hR (4 * f2 + 2 * k2) (by omega) e1 e2, hR (4 * f2 + 2 * k2 + 1) (by omega) e3 e4]
      exact h6.2.1 f2 k2 hf2 hk2
  · intro i hi
    by_cases e1 : i = 4 * f + 2 * k
    · rw [e1]
      exact hl
    · by_cases e2 : i = 4 * f + 2 * k + 1
      · rw [e2]
        exact hr
      · rw [hR i hi e1 e2]
        exact h6.2.2 i hi
  · obtain ⟨a1, a2, a3⟩ := h7 j hj
    rw [h _ (by omega) (by omega) (by omega) (by omega), h _ (by omega) (by omega) (by omega) (by omega), h _ (by omega) (by omega) (by omega) (by omega), h _ (by omega) (by omega) (by omega) (by omega)]
    exact ⟨iv_E_mono hid hne a1, fun z => iv_E_mono hid hne (a2 z), a3⟩
/-- one more formula, and its goal alone -/
theorem iv_W_conj {n : Nat} {A : Nat → List Nat} {Z : Nat → Nat} {q ng : Nat} {hy hy' : Nat → Bool} {m m' : Nat → List Nat} (hq : q < 8) (h : ∀ s, 1 ≤ s → s < 49 → s ≠ 1 + 2 * q → s ≠ 1 + 2 * q + 1 → m' s = m s) (h0 : (m' 0).length ≤ 48)
    (hE : iv_E (tm_sg n A Z) (iv_R m) (m' (1 + 2 * q)) (m' (1 + 2 * q + 1))) (hg1 : m' 49 = m' (1 + 2 * q)) (hg2 : m' 50 = m' (1 + 2 * q + 1)) (hg3 : m' 51 = []) (hg4 : m' 52 = []) (hh : hy' 0 = false)
    (hW : iv_W n A Z q ng hy m) : iv_W n A Z (q + 1) 1 hy' m' := by
  obtain ⟨h1, h2, h3, _, h5, h6, h7⟩ := hW
  have hR : ∀ i, i < 32 → iv_R m' i = iv_R m i := fun i hi => h _ (by omega) (by omega) (by omega) (by omega)
  refine ⟨h1, by omega, by omega, h0, ⟨fun k hk => ?_, fun i a b => ?_⟩, iv_Wr_ext (fun s a b => h s (by omega) b (by omega) (by omega)) h6, fun j hj => ?_⟩
  · by_cases e : k = q
    · subst e
      exact iv_E_ext hR hE
    · rw [h _ (by omega) (by omega) (by omega) (by omega), h _ (by omega) (by omega) (by omega) (by omega)]
      exact iv_E_ext hR (h5.1 k (by omega))
  · rw [h _ (by omega) (by omega) (by omega) (by omega)]
    exact h5.2 i (by omega) b
  · have e : j = 0 := by omega
    subst e
    refine ⟨?_, fun z => ?_, fun _ => ⟨hg3, hg4⟩⟩
    · show iv_E (tm_sg n A Z) (iv_R m') (m' 49) (m' 50)
      rw [hg1, hg2]
      exact iv_E_ext hR hE
    · rw [hh] at z
      cases z
end
section
/-! 08: well-formed equations, the form of a rule: pure -/
def eq_Q (g : tm_G) (w : List Nat) (e : Nat) : Prop := e < w.length ∧ tm_at w e = 61 ∧ ∃ s, tm_P g [s] (w.take e) ∧ tm_P g [s] (w.drop (e + 1))
theorem eq_sym {n : Nat} {A : Nat → List Nat} {Z : Nat → Nat} (hn : n ≤ 8) : tm_sg n A Z 61 = none := tm_sg_o (by decide) (by decide) (by decide) (by omega)
theorem eq_no {g : tm_G} (h61 : g 61 = none) {S w : List Nat} (hP : tm_P g S w) {i : Nat} (hi : i < w.length) : tm_at w i ≠ 61 := by
  intro z
  obtain ⟨a, s, h⟩ := tm_P_sym hP (tm_at_mem hi)
  rw [z, h61] at h
  cases h
theorem eq_Q_only {g : tm_G} (h61 : g 61 = none) {w : List Nat} {e : Nat} (h : eq_Q g w e) {i : Nat} (hi : i < w.length) (hw : tm_at w i = 61) : i = e := by
  obtain ⟨h1, h2, s, h3, h4⟩ := h
  apply Nat.le_antisymm
  · apply Nat.le_of_not_lt
    intro hlt
    have := eq_no h61 h4 (i := i - (e + 1)) (by rw [List.length_drop]; omega)
    rw [tm_at_drop, show e + 1 + (i - (e + 1)) = i by omega] at this
    exact this hw
  · apply Nat.le_of_not_lt
    intro hlt
    have := eq_no h61 h3 (i := i) (by rw [List.length_take]; omega)
    rw [tm_at_take hlt] at this
    exact this hw
/-- the rule's own shape -/
def eq_rc (w : List Nat) : Nat := if tm_at w 1 = 83 then tm_at w 2 else if tm_at w 1 = 67 then tm_at w 3 else 0
def eq_FL (w : List Nat) (e : Nat) : Prop := tm_fn (tm_at w 0) ∧ tm_kd (tm_at w 1) ≠ none ∧ (∀ i, 2 ≤ i → i < e → tm_vn (tm_at w i) ≠ none) ∧ (∀ i j, 2 ≤ i → i < j → j < e → tm_at w i ≠ tm_at w j)
def eq_FV (w : List Nat) (e : Nat) : Prop := ∀ i, e < i → i < w.length → tm_vn (tm_at w i) ≠ none → ∃ j, j < e ∧ tm_at w j = tm_at w i
def eq_F1 (R : Nat → List Nat) (w : List Nat) (i : Nat) : Prop := tm_fn (tm_at w i) → (tm_at w i < tm_at w 0 ∧ tm_cp R (tm_at w i)) ∨ (tm_at w i = tm_at w 0 ∧ eq_rc w ≠ 0 ∧ tm_at w (i + 1) = eq_rc w)
def eq_FF (R : Nat → List Nat) (w : List Nat) (e : Nat) : Prop := ∀ i, e < i → i < w.length → eq_F1 R w i
def eq_F (R : Nat → List Nat) (w : List Nat) (e : Nat) : Prop := eq_FL w e ∧ eq_FV w e ∧ eq_FF R w e
/-- behind S there is one more symbol of the left side, behind C there are two -/
theorem eq_len {n : Nat} {A : Nat → List Nat} {Z : Nat → Nat} {w : List Nat} {e : Nat} (h : eq_Q (tm_sg n A Z) w e) (hk : tm_kd (tm_at w 1) ≠ none) (hf : tm_fn (tm_at w 0)) : 2 ≤ e ∧ (tm_at w 1 = 83 → 3 ≤ e) ∧ (tm_at w 1 = 67 → 4 ≤ e) := by
  obtain ⟨h1, h2, s, h3, h4⟩ := h
  have e0 : e ≠ 0 := by
    intro z
    subst z
    rw [h2] at hf
    omega
  have e1 : e ≠ 1 := by
    intro z
    subst z
    rw [h2] at hk
    exact hk (by decide)
  have l0 : (w.take e).length = e := by rw [List.length_take]; omega
  refine ⟨by omega, fun z => ?_, fun z => ?_⟩
  · apply Nat.lt_of_not_le
    intro hle
    obtain ⟨a, s', S', hg, _, hP⟩ := tm_P_suf h3 (i := 1) (by omega)
    rw [tm_at_take (by omega), z, tm_sg_83] at hg
    obtain ⟨rfl, rfl⟩ := Prod.mk.inj (Option.some.inj hg)
    rw [List.drop_eq_nil_of_le (by omega)] at hP
    exact absurd hP (fun y => nomatch (show [0] ++ S' = [] from y))
  · apply Nat.lt_of_not_le
    intro hle
    obtain ⟨a, s', S', hg, _, hP⟩ := tm_P_suf h3 (i := 1) (by omega)
    rw [tm_at_take (by omega), z, tm_sg_67] at hg
    obtain ⟨rfl, rfl⟩ := Prod.mk.inj (Option.some.inj hg)
    have hl := tm_P_len' hP
    have h5 := tm_en_le (tm_sg n A Z) ((w.take e).drop (1 + 1)) ([0, 1] ++ S').length
    rw [List.length_drop, l0] at hl h5
    by_cases z2 : e = 2
    · rw [List.drop_eq_nil_of_le (by omega)] at hP
      exact absurd hP (fun y => nomatch (show [0, 1] ++ S' = [] from y))
    · have z3 : e = 3 := by omega
      rw [tm_drop_cons (w := w.take e) (i := 1 + 1) (by omega), List.drop_eq_nil_of_le (by omega)] at hP
      obtain ⟨a, s2, S2, hg2, hS2, hP2⟩ := hP
      have hP2' : a ++ S2 = [] := hP2
      obtain ⟨_, hs⟩ := List.append_eq_nil_iff.mp hP2'
      rw [hs] at hS2
      exact absurd hS2 (fun y => nomatch (List.cons.inj (show 0 :: (1 :: S') = s2 :: [] from y)).2)
theorem eq_RW {n : Nat} {A : Nat → List Nat} {Z : Nat → Nat} {R R' : Nat → List Nat} {w : List Nat} {e k : Nat} (h : eq_Q (tm_sg n A Z) w e) (hF : eq_F R w e) (hk : tm_kd (tm_at w 1) = some k)
    (hl : R' (4 * (tm_at w 0 - 70) + 2 * k) = w.take e) (hr : R' (4 * (tm_at w 0 - 70) + 2 * k + 1) = w.drop (e + 1)) (hne : ∀ i, i < 32 → R i ≠ [] → R' i ≠ []) : tm_RW (tm_sg n A Z) R' (tm_at w 0 - 70) k := by
  obtain ⟨hFL, hFV, hFF⟩ := hF
  have hfn : tm_fn (tm_at w 0) := hFL.1
  obtain ⟨he, _, _⟩ := eq_len h hFL.2.1 hfn
  obtain ⟨h1, h2, s, h3, h4⟩ := h
  have l0 : (w.take e).length = e := by rw [List.length_take]; omega
  have hcons : w.take e = tm_at w 0 :: tm_at w 1 :: (w.take e).drop 2 := by
    have q0 := tm_drop_cons (w := w.take e) (i := 0) (by omega)
    have q1 := tm_drop_cons (w := w.take e) (i := 1) (by omega)
    rw [List.drop_zero, Nat.zero_add, q1, tm_at_take (by omega), tm_at_take (by omega)] at q0
    exact q0
  have hat : ∀ i, i < e - 2 → tm_at ((w.take e).drop 2) i = tm_at w (2 + i) := by
    intro i hi
    rw [tm_at_drop, tm_at_take (by omega)]
  have ld : ((w.take e).drop 2).length = e - 2 := by rw [List.length_drop, l0]
  refine ⟨tm_at w 1, (w.take e).drop 2, s, ?_, hk, ?_, ?_, ?_, ?_, ?_⟩
  · rw [hl, show 70 + (tm_at w 0 - 70) = tm_at w 0 by omega]
    exact hcons
  · intro c hc
    obtain ⟨i, hi, rfl⟩ := tm_mem_at hc
    rw [ld] at hi
    rw [hat i hi]
    exact Option.ne_none_iff_exists'.mp (hFL.2.2.1 (2 + i) (by omega) (by omega))
  · rw [List.nodup_iff_pairwise_ne, List.pairwise_iff_getElem]
    intro i j hi hj hij
    have := hFL.2.2.2 (2 + i) (2 + j) (by omega) (by omega) (by omega)
    rw [← hat i (by omega), ← hat j (by omega), tm_at_lt hi, tm_at_lt hj] at this
    exact this
  · rw [hl]; exact h3
  · rw [hr]; exact h4
  · rw [hr]
    intro c hc hf
    obtain ⟨i, hi, rfl⟩ := tm_mem_at hc
    rw [List.length_drop] at hi
    rw [tm_at_drop] at hf ⊢
    rcases hFF (e + 1 + i) (by omega) (by omega) hf with ⟨_, hp⟩ | ⟨hp, _⟩
    · exact Or.inr (iv_cp_ext hne hf hp)
    · left
      omega
end
section
/-! 09: bytes fed; what the arrays of bindings say; the signature's arrays: pure -/
def fd_w (w0 w1 w2 w3 : Int32) (j : Nat) : Int32 := if j < 4 then w0 else if j < 8 then w1 else if j < 12 then w2 else w3
def fd_b (w0 w1 w2 w3 : Int32) (j : Nat) : Nat := (fd_w w0 w1 w2 w3 j >>> (nI (8 * (j % 4)) &&& 31)).toBitVec.toNat % 256
theorem fd_b_e (w0 w1 w2 w3 : Int32) (j : Nat) : (fd_w w0 w1 w2 w3 j >>> (nI (8 * (j % 4)) &&& 31)) &&& 255 = nI (fd_b w0 w1 w2 w3 j) := pk_and _ 8 (by decide)
theorem fd_b_lt (w0 w1 w2 w3 : Int32) (j : Nat) : fd_b w0 w1 w2 w3 j < 256 := Nat.mod_lt _ (by decide)
def fd_l (b : Nat → Nat) : Nat → Nat → List Nat
  | 0, _ => []
  | k + 1, j => if b j = 0 then [] else b j :: fd_l b k (j + 1)
theorem fd_l_0 {b : Nat → Nat} {k j : Nat} (h : b j = 0) : fd_l b k j = [] := by
  cases k with
  | zero => rfl
  | succ k => exact if_pos h
theorem fd_l_s {b : Nat → Nat} {k j : Nat} (h : b j ≠ 0) : fd_l b (k + 1) j = b j :: fd_l b k (j + 1) := if_neg h
theorem fd_l_len {b : Nat → Nat} (k : Nat) : ∀ j, (fd_l b k j).length ≤ k := by
  induction k with
  | zero => exact fun _ => Nat.zero_le _
  | succ k ih =>
    intro j
    by_cases h : b j = 0
    · rw [fd_l_0 h]
      exact Nat.zero_le _
    · rw [fd_l_s h, List.length_cons]
      have := ih (j + 1)
      omega
theorem fd_l_at {b : Nat → Nat} (k : Nat) : ∀ j i, i < (fd_l b k j).length → tm_at (fd_l b k j) i = b (j + i) := by
  induction k with
  | zero => exact fun _ _ h => absurd h (Nat.not_lt_zero _)
  | succ k ih =>
    intro j i hi
    by_cases h : b j = 0
    · rw [fd_l_0 h] at hi
      exact absurd hi (Nat.not_lt_zero _)
    · rw [fd_l_s h] at hi ⊢
      cases i with
      | zero => rfl
      | succ i =>
        rw [List.length_cons] at hi
        have := ih (j + 1) i (by omega)
        rw [show j + (i + 1) = j + 1 + i by omega, ← this]
        rfl
/-! bindings -/
def rb_X (B : Nat → Int32) (b : Nat → Option Nat) : Prop := ∀ v, v < 16 → (b v = none → B v = -1) ∧ ∀ q0, b v = some q0 → B v = nI q0
theorem rb_X_up {B : Nat → Int32} {b : Nat → Option Nat} {v q : Nat} (h : rb_X B b) : rb_X (upd B v (nI q)) (tm_bu b v q) := by
  intro j hj
  unfold tm_bu
  by_cases e : j = v
  · subst e
    rw [cm_us, if_pos rfl]
    exact ⟨fun z => (nomatch z), fun q0 z => congrArg nI (Option.some.inj z)⟩
  · rw [cm_un e, if_neg e]
    exact h j hj
def rb_Y (g : tm_G) (w : List Nat) (bo bs be : Nat → Int32) (b : Nat → Option Nat) : Prop := ∀ v, v < 16 → (b v = none → bo v = 0) ∧ ∀ q0, b v = some q0 → bo v = 1 ∧ bs v = nI q0 ∧ be v = nI (tm_e g w q0)
theorem rb_Y_up {g : tm_G} {w : List Nat} {bo bs be : Nat → Int32} {b : Nat → Option Nat} {v q : Nat} (h : rb_Y g w bo bs be b) : rb_Y g w (upd bo v 1) (upd bs v (nI q)) (upd be v (nI (tm_e g w q))) (tm_bu b v q) := by
  intro j hj
  unfold tm_bu
  by_cases e : j = v
  · subst e
    rw [cm_us, cm_us, cm_us, if_pos rfl]
    exact ⟨fun z => (nomatch z), fun q0 z => by rw [Option.some.inj z]; exact ⟨rfl, rfl, rfl⟩⟩
  · rw [cm_un e, cm_un e, cm_un e, if_neg e]
    exact h j hj
/-! the signature in arrays -/
def sg_X (g : tm_G) (ay gs so : Nat → Int32) : Prop := ∀ c, c < 256 → (∀ a s, g c = some (a, s) → ay c = nI a.length ∧ gs c = nI (so_num a) ∧ so c = nI s) ∧ (g c = none → ay c = -1)
def sg_Y (n : Nat) (A : Nat → List Nat) (Z : Nat → Nat) (fa fr fe : Nat → Int32) : Prop := ∀ f, f < n → fa f = nI (A f).length ∧ fr f = nI (so_num (A f)) ∧ fe f = nI (Z f)
theorem sg_X_ar {g : tm_G} {ay gs so : Nat → Int32} (h : sg_X g ay gs so) {c : Nat} (hc : c < 256) : ay c = nI (tm_ar g c) ∨ (ay c = -1 ∧ tm_ar g c = 0 ∧ g c = none) := by
  cases e : g c with
  | none =>
    refine Or.inr ⟨(h c hc).2 e, ?_, rfl⟩
    unfold tm_ar
    rw [e]
  | some p =>
    left
    obtain ⟨a, s⟩ := p
    rw [tm_ar_some e]
    exact ((h c hc).1 a s e).1
theorem so_one (a : Nat) : so_num [a] = a := by
  rw [so_num_cons, so_num_nil]
  omega
def so_bits : Nat → Nat → List Nat
  | 0, _ => []
  | k + 1, x => x % 2 :: so_bits k (x / 2)
theorem so_bits_len (k : Nat) : ∀ x, (so_bits k x).length = k := by
  induction k with
  | zero => exact fun _ => rfl
  | succ k ih =>
    intro x
    show (x % 2 :: so_bits k (x / 2)).length = k + 1
    rw [List.length_cons, ih]
theorem so_bits_B (k : Nat) : ∀ x, so_B (so_bits k x) := by
  induction k with
  | zero => exact fun _ _ h => nomatch h
  | succ k ih => exact fun x => so_B_mk (Nat.mod_lt _ (by decide)) (ih _)
theorem so_bits_num (k : Nat) : ∀ x, so_num (so_bits k x) = x % 2 ^ k := by
  induction k with
  | zero =>
    intro x
    rw [Nat.pow_zero, Nat.mod_one]
    rfl
  | succ k ih =>
    intro x
    show so_num (x % 2 :: so_bits k (x / 2)) = _
    rw [so_num_cons, ih, Nat.pow_succ, Nat.mul_comm (2 ^ k) 2, Nat.mod_mul]
theorem so_bit_at {S : List Nat} (hB : so_B S) {j : Nat} (hj : j < S.length) : so_num S / 2 ^ j % 2 = tm_at S j := by
  rw [(so_td S j (by omega) hB).2, tm_drop_cons hj, so_num_cons]
  have := hB _ (tm_at_mem hj)
  omega
end
section
/-! 10: the class: symbols, appending, copying -/
section XA
variable {xn xq xa xg : Int32} {T L ay gs so E B pv vl el : Nat → Int32} {m : Nat → List Nat}
theorem xi_ix (s i : Nat) : nI s * 49 + nI i = nI (s * 49 + i) := by
  rw [show (49 : Int32) = nI 49 from rfl, pk_mul, nI_add]
theorem xi_nar {c : Nat} (h : c < 65536) : vp_nar .char (nI c) = nI c := by
  unfold vp_nar
  rw [(pk_charN h).1]
theorem xi_pl {j k : Nat} (hj : j < 2 ^ 30) (hk : k < 2 ^ 30) : nI j - 1 < nI k ↔ j ≤ k := by
  rw [Int32.lt_iff_toInt_lt, show (1 : Int32) = nI 1 from rfl, pk_sub_toInt hj (by omega), nI_toInt (by omega)]
  omega
theorem xi_pl0 {j : Nat} (hj : j < 2 ^ 30) : nI j - 1 < 0 ↔ j = 0 := by
  have := xi_pl (j := j) (k := 0) hj (by omega)
  rw [nI_0] at this
  rw [this]
  omega
theorem xi_m1 {j : Nat} (h : 0 < j) : nI j - 1 = nI (j - 1) := pk_sub (b := 1) h
theorem xi_m1' (j : Nat) : nI (j + 1) - 1 = nI j := nI_pred j
theorem xi_neg {n : Nat} (h : n < 2 ^ 31) : ¬ nI n = -1 := by
  intro z
  have h1 := congrArg Int32.toInt z
  rw [nI_toInt h, show (-1 : Int32).toInt = -1 from by decide] at h1
  omega
theorem xp_sym {post : Int32 → Prop} (hM : cm_M 49 86 T L m) {s i : Nat} (hs : s < 86) (hi : i < 2 ^ 31) (h : post (nI (tm_at (m s) i))) : wpX_symbolAt post (xn, xq, xa, xg, T, L, ay, gs, so, E, B, pv, vl, el) (nI s) (nI i) := by
  unfold wpX_symbolAt
  dsimp only
  have hl := cm_len hM hs
  have hle := cm_le hM hs
  refine br_f (nI_pos hi) ⟨vp_in_nI hs (by omega), ?_⟩
  rw [nI_clamp (n := s) (by omega), hl]
  refine pk_lt i (m s).length (fun hlt => ?_) (fun hge => ?_)
  · rw [xi_ix, nI_clamp (by omega), cm_t hM hs hlt]
    have := cm_b hM hs i
    exact ⟨vp_in_nI (by omega) (by omega), (pk_charN (by omega)).1, h⟩
  · rw [tm_at_ge hge] at h
    exact h
theorem xp_symn {post : Int32 → Prop} {x y : Int32} (hi : y < 0) (h : post 0) : wpX_symbolAt post (xn, xq, xa, xg, T, L, ay, gs, so, E, B, pv, vl, el) x y := by
  unfold wpX_symbolAt
  dsimp only
  exact br_t hi h
theorem xp_append {post : SX → Prop} (hM : cm_M 49 86 T L m) {s c : Nat} (hs : s < 86) (hc : c < 256) (h : ∀ T' L', cm_M 49 86 T' L' (cm_set m s ((m s ++ [c]).take 49)) → post (xn, xq, xa, xg, T', L', ay, gs, so, E, B, pv, vl, el)) : wpX_append post (xn, xq, xa, xg, T, L, ay, gs, so, E, B, pv, vl, el) (nI s) (nI c) := by
  unfold wpX_append
  dsimp only
  have hl := cm_len hM hs
  have hle := cm_le hM hs
  rw [nI_clamp (n := s) (by omega), hl]
  refine ⟨vp_in_nI hs (by omega), nm_e ?_⟩
  refine pk_le 49 (m s).length (fun hge => ?_) (fun hlt => ?_)
  · apply h
    rw [List.take_append_of_le_length hge, cm_tl hle, cm_set_self]
    exact hM
  · rw [xi_ix, nI_clamp (by omega), nI_1, xi_nar (by omega)]
    refine ⟨vp_in_nI (by omega) (by omega), nm_e ⟨vp_in_nI hs (by omega), nm_e ?_⟩⟩
    apply h
    rw [cm_tl (by rw [List.length_append, List.length_singleton]; omega)]
    exact cm_put hM hs rfl hlt hc
theorem xl_copySpan {post : SX → Prop} {t s stop : Nat} (ht : t < 86) (hs : s < 86) (hts : s ≠ t) (hstop : stop ≤ (m s).length) : ∀ (n i : Nat) (T : Nat → Int32) (m' : Nat → List Nat), stop < n + i → i ≤ stop → m' s = m s → cm_M 49 86 T (upd L t (nI (m' t).length)) m' →
    (∀ T' L', cm_M 49 86 T' L' (cm_set m' t ((m' t ++ ((m s).drop i).take (stop - i)).take 49)) → post (xn, xq, xa, xg, T', L', ay, gs, so, E, B, pv, vl, el)) → wX_copySpan_11 post (nI t) (nI s) (nI stop) xn xq xa xg n (nI (m' t).length) (nI i) T L ay gs so E B pv vl el := by
  intro n
  induction n with
  | zero => intro i T m' h1 h2; omega
  | succ n ih =>
    intro i T m' h1 h2 hms hM h
    have hle := cm_le hM ht
    have hls := cm_le hM hs
    rw [hms] at hls
    rw [wX_copySpan_11]
    rw [nI_clamp (n := t) (by omega)]
    refine pk_le stop i (fun hge => ?_) (fun hlt => ?_)
    · refine ⟨vp_in_nI ht (by omega), nm_e ?_⟩
      apply h
      rw [show stop - i = 0 by omega, List.take_zero, List.append_nil, cm_tl hle, cm_set_self]
      exact hM
    · refine pk_le 49 (m' t).length (fun hge => ?_) (fun hl2 => ?_)
      · refine ⟨vp_in_nI ht (by omega), nm_e ?_⟩
        apply h
        rw [List.take_append_of_le_length hge, cm_tl hle, cm_set_self]
        exact hM
      · have hb := cm_b hM hs i
        have hT := cm_t hM hs (i := i) (by rw [hms]; omega)
        rw [hms] at hb hT
        rw [xi_ix, xi_ix, nI_clamp (n := s * 49 + i) (by omega), nI_clamp (n := t * 49 + (m' t).length) (by omega), hT, xi_nar (by omega), nI_1, nI_1]
        refine ⟨vp_in_nI (by omega) (by omega), vp_in_nI (by omega) (by omega), nm_e (nm_e (nm_e ?_))⟩
        have hP := cm_put hM ht rfl hl2 hb
        rw [cm_uu] at hP
        have e1 : (cm_set m' t (m' t ++ [tm_at (m s) i]) t).length = (m' t).length + 1 := by
          rw [cm_set_s, List.length_append, List.length_singleton]
        rw [← e1]
        refine ih (i + 1) _ _ (by omega) (by omega) ?_ ?_ ?_
        · rw [cm_set_n hts, hms]
        · rw [e1]
          exact hP
        · intro T' L' hM'
          apply h
          rw [cm_set_s, cm_set_set] at hM'
          rw [show ((m s).drop i).take (stop - i) = tm_at (m s) i :: ((m s).drop (i + 1)).take (stop - (i + 1)) by
            rw [tm_drop_cons (by omega), show stop - i = (stop - (i + 1)) + 1 by omega, List.take_succ_cons]]
          rw [List.append_assoc] at hM'
          exact hM'
theorem xp_copySpan {post : SX → Prop} (hM : cm_M 49 86 T L m) {t s start stop : Nat} (ht : t < 86) (hs : s < 86) (hts : s ≠ t) (hstop : stop ≤ (m s).length) (hst : start ≤ stop) (h : ∀ T' L', cm_M 49 86 T' L' (cm_set m t ((m t ++ ((m s).drop start).take (stop - start)).take 49)) → post (xn, xq, xa, xg, T', L', ay, gs, so, E, B, pv, vl, el)) : wpX_copySpan post (xn, xq, xa, xg, T, L, ay, gs, so, E, B, pv, vl, el) (nI t) (nI s) (nI start) (nI stop) := by
  unfold wpX_copySpan
  dsimp only
  have hl := cm_len hM ht
  rw [nI_clamp (n := t) (by omega)]
  refine ⟨vp_in_nI ht (by omega), nm_r hl ?_⟩
  refine ⟨stop + 1, xl_copySpan (m := m) ht hs hts hstop (stop + 1) start T m (by omega) hst rfl ?_ h⟩
  rw [cm_ue hl]
  exact hM
theorem xp_copyText {post : SX → Prop} (hM : cm_M 49 86 T L m) {t s : Nat} (ht : t < 86) (hs : s < 86) (hts : s ≠ t) (h : ∀ T' L', cm_M 49 86 T' L' (cm_set m t (m s)) → post (xn, xq, xa, xg, T', L', ay, gs, so, E, B, pv, vl, el)) : wpX_copyText post (xn, xq, xa, xg, T, L, ay, gs, so, E, B, pv, vl, el) (nI s) (nI t) := by
  unfold wpX_copyText
  dsimp only
  have h0 := cm_nil hM ht
  have hl := cm_len h0 hs
  rw [cm_set_n hts] at hl
  have hle := cm_le hM hs
  rw [nI_clamp (n := t) (by omega)]
  refine ⟨vp_in_nI ht (by omega), nm_e ⟨vp_in_nI hs (by omega), ?_⟩⟩
  rw [nI_clamp (n := s) (by omega), hl]
  refine xp_copySpan h0 (start := 0) ht hs hts (by rw [cm_set_n hts]; exact Nat.le_refl _) (Nat.zero_le _) ?_
  intro T' L' hM'
  apply h
  rw [cm_set_s, cm_set_set, List.nil_append, cm_set_n hts, List.drop_zero, Nat.sub_zero, cm_tl (Nat.le_refl _), cm_tl hle] at hM'
  exact hM'
/-! what a symbol is -/
theorem xp_vnum {post : Int32 → Prop} {c : Nat} (hc : c < 65536) (h1 : ∀ v, tm_vn c = some v → v < 16 → post (nI v)) (h0 : tm_vn c = none → post (-1)) : wpX_variableNumber post (nI c) := by
  unfold wpX_variableNumber wX_variableNumber_17
  have hb : ∀ (_ : ¬ (97 ≤ c ∧ c ≤ 104)), (nI c < 112 → post (-1)) ∧ (¬ nI c < 112 → (119 < nI c → post (-1)) ∧ (¬ 119 < nI c → post (nI c - 112 + 8))) := by
    intro hn
    refine pk_lt c 112 (fun a => h0 ?_) (fun a => pk_lt 119 c (fun b => h0 ?_) (fun b => ?_))
    · unfold tm_vn
      rw [if_neg hn, if_neg (by omega)]
    · unfold tm_vn
      rw [if_neg hn, if_neg (by omega)]
    · rw [show nI c - 112 + 8 = nI (c - 104) by
        rw [show nI c - 112 = nI (c - 112) from pk_sub (b := 112) a, show nI (c - 112) + 8 = nI (c - 112 + 8) from nI_add _ 8, show c - 112 + 8 = c - 104 by omega]]
      refine h1 (c - 104) ?_ (by omega)
      unfold tm_vn
      rw [if_neg hn, if_pos (by omega)]
  refine pk_lt c 97 (fun a => hb (by omega)) (fun a => pk_lt 104 c (fun b => hb (by omega)) (fun b => ?_))
  rw [show nI c - 97 = nI (c - 97) from pk_sub (b := 97) a]
  refine h1 (c - 97) ?_ (by omega)
  unfold tm_vn
  rw [if_pos (by omega)]
theorem xp_kind {post : Int32 → Prop} {c : Nat} (hc : c < 65536) (h1 : ∀ k, tm_kd c = some k → post (nI k)) (h0 : tm_kd c = none → post (-1)) : wpX_constructorKind post (nI c) := by
  unfold wpX_constructorKind
  refine pk_eq c 90 (fun a => h1 0 ?_) (fun a => pk_eq c 78 (fun b => h1 0 ?_) (fun b => pk_eq c 83 (fun d => h1 1 ?_) (fun d => pk_eq c 67 (fun e => h1 1 ?_) (fun e => h0 ?_))))
  · rw [a]; rfl
  · rw [b]; rfl
  · rw [d]; rfl
  · rw [e]; rfl
  · unfold tm_kd
    rw [if_neg (by omega), if_neg (by omega)]
theorem xp_isf {post : Int32 → Prop} {c : Nat} (hc : c < 65536) (h1 : tm_fn c → post 1) (h0 : ¬ tm_fn c → post 0) : wpX_isFunction post (nI c) := by
  unfold wpX_isFunction
  exact pk_lt c 70 (fun a => h0 (by omega)) (fun a => pk_lt 77 c (fun b => h0 (by omega)) (fun b => h1 (by omega)))
theorem xp_letter {post : Int32 → Prop} {v : Nat} (hv : v < 16) (h : post (nI (tm_vc v))) : wpX_variableLetter post (nI v) := by
  unfold wpX_variableLetter
  have key : ∀ (x : Int32) (c : Nat), x = nI c → c < 256 → post (nI c) → (narrow .char (.int (x.toUInt32 % 65536).toInt32) = .int (x.toUInt32 % 65536).toInt32 ∧ post (x.toUInt32 % 65536).toInt32) := by
    intro x c e hc hp
    have e2 : (x.toUInt32 % 65536).toInt32 = nI c := by
      rw [pk_char, e, pk_tn (by omega), Nat.mod_eq_of_lt (by omega)]
    rw [e2]
    exact ⟨(pk_charN (by omega)).1, hp⟩
  unfold tm_vc at h
  refine pk_le 8 v (fun a => ?_) (fun a => ?_)
  · rw [if_neg (by omega)] at h
    refine key _ (104 + v) ?_ (by omega) h
    rw [show (112 : Int32) + nI v = nI (112 + v) from nI_add 112 v, show nI (112 + v) - 8 = nI (112 + v - 8) from pk_sub (b := 8) (by omega), show 112 + v - 8 = 104 + v by omega]
  · rw [if_pos (by omega)] at h
    exact key _ (97 + v) (nI_add 97 v) (by omega) h
end XA
end
section
/-! 11: the class: sets of variables, sorts, equations -/
section XB
variable {xn xq xa xg : Int32} {T L ay gs so E B pv vl el : Nat → Int32} {m : Nat → List Nat} {g : tm_G}
theorem xi_vcinj {u v : Nat} (hu : u < 16) (hv : v < 16) (h : tm_vc u = tm_vc v) : u = v := by
  have h1 := tm_vn_vc hu
  rw [h, tm_vn_vc hv] at h1
  exact (Option.some.inj h1).symm
theorem xi_dt {w : List Nat} {start i : Nat} (h : start ≤ i) (hi : i < w.length) : (w.take (i + 1)).drop start = (w.take i).drop start ++ [tm_at w i] := by
  rw [← cm_snoc hi, List.drop_append_of_le_length (by rw [List.length_take]; omega)]
theorem xl_vars {post : Int32 → Prop} (hM : cm_M 49 86 T L m) {s stop start : Nat} (hs : s < 86) (hstop : stop ≤ (m s).length) (h : ∀ k, vb_S k (fun v => tm_vc v ∈ ((m s).take stop).drop start) → post (nI k)) :
    ∀ n i k, stop < n + i → start ≤ i → i ≤ stop → vb_S k (fun v => tm_vc v ∈ ((m s).take i).drop start) → wX_variablesIn_6 post (nI s) (nI stop) xn xq xa xg T L ay gs so E B pv vl el n (nI k) (nI i) := by
  have hle := cm_le hM hs
  intro n
  induction n with
  | zero => intro i k h1 h2 h3; omega
  | succ n ih =>
    intro i k h1 h2 h3 hk
    rw [wX_variablesIn_6]
    refine pk_le stop i (fun hge => ?_) (fun hlt => ?_)
    · have e : i = stop := by omega
      subst e
      exact h k hk
    · have hb := cm_b hM hs i
      refine xp_sym hM hs (by omega) ?_
      refine xp_vnum (by omega) (fun v hv hv16 => ?_) (fun hv => ?_)
      · refine br_f (nI_pos (by omega)) (nm_r (by rw [vb_one hv16, vb_or]) (nm_r (nI_1 i) ?_))
        refine ih (i + 1) (k ||| 2 ^ v) (by omega) (by omega) (by omega) (vb_S_iff ?_ (vb_S_or hk (vb_S_one hv16)))
        intro u hu
        rw [xi_dt h2 (by omega), List.mem_append, List.mem_singleton, (tm_vn_ch hv).1]
        constructor
        · rintro (a | a)
          · exact Or.inl a
          · exact Or.inr (by rw [a])
        · rintro (a | a)
          · exact Or.inl a
          · exact Or.inr (xi_vcinj hu hv16 a)
      · refine br_t (by decide) (nm_r (nI_1 i) ?_)
        refine ih (i + 1) k (by omega) (by omega) (by omega) (vb_S_iff ?_ hk)
        intro u hu
        rw [xi_dt h2 (by omega), List.mem_append, List.mem_singleton]
        constructor
        · exact fun a => Or.inl a
        · rintro (a | a)
          · exact a
          · rw [← a, tm_vn_vc hu] at hv
            cases hv
theorem xp_vars {post : Int32 → Prop} (hM : cm_M 49 86 T L m) {s stop start : Nat} (hs : s < 86) (hstop : stop ≤ (m s).length) (hst : start ≤ stop) (h : ∀ k, vb_S k (fun v => tm_vc v ∈ ((m s).take stop).drop start) → post (nI k)) : wpX_variablesIn post (xn, xq, xa, xg, T, L, ay, gs, so, E, B, pv, vl, el) (nI s) (nI start) (nI stop) := by
  unfold wpX_variablesIn
  dsimp only
  refine ⟨stop + 1, xl_vars hM hs hstop h (stop + 1) start 0 (by omega) (Nat.le_refl _) hst (vb_S_iff ?_ vb_S_0)⟩
  intro v _
  rw [List.drop_take_self]
  exact ⟨fun z => z.elim, fun z => (nomatch z)⟩
theorem xp_varsOf {post : Int32 → Prop} (hM : cm_M 49 86 T L m) {s : Nat} (hs : s < 86) (h : ∀ k, vb_S k (fun v => tm_vc v ∈ m s) → post (nI k)) : wpX_variablesOf post (xn, xq, xa, xg, T, L, ay, gs, so, E, B, pv, vl, el) (nI s) := by
  unfold wpX_variablesOf
  dsimp only
  rw [nI_clamp (n := s) (by omega), cm_len hM hs]
  refine ⟨vp_in_nI hs (by omega), ?_⟩
  refine xp_vars (start := 0) hM hs (Nat.le_refl _) (Nat.zero_le _) (fun k hk => h k ?_)
  rw [cm_tl (Nat.le_refl _), List.drop_zero] at hk
  exact hk
theorem xi_sh : ∀ a, a < 4 → (((nI a).toInt64 &&& 63).toBitVec.smod 64).toNat = a := by decide +kernel
theorem xi_p48 {S : List Nat} (hB : so_B S) (hl : S.length ≤ 49) : so_num S < 2 ^ 49 := Nat.lt_of_lt_of_le (so_lt S hB) (Nat.pow_le_pow_right (by decide) hl)
theorem xl_sort45 {post : Int32 → Prop} {J : Int64 → Int32 → Int32 → Prop} {x1 x2 : Int32} {n : Nat} {A : Nat → List Nat} {Z : Nat → Nat} (hS : tm_SG n A Z) (hg : sg_X (tm_sg n A Z) ay gs so) {c j : Nat} {S : List Nat} (hc : c < 256) (hB : so_B S) (hl : S.length ≤ 48) (hj : j < 2 ^ 30)
    (hok : ∀ a s, tm_sg n A Z c = some (a, s) → S.take a.length = a → so_B (s :: S.drop a.length) → J (lN (so_num (s :: S.drop a.length))) (nI (s :: S.drop a.length).length) (nI j - 1)) (hno : (∀ a s, tm_sg n A Z c = some (a, s) → S.take a.length ≠ a) → post (-1)) :
    wX_termSort_45 post J x1 x2 (lN (so_num S)) (nI S.length) (nI j) (nI c) (ay c) xn xq xa xg T L ay gs so E B pv vl el := by
  unfold wX_termSort_45
  have hn := xi_p48 hB (by omega)
  cases e : tm_sg n A Z c with
  | none =>
    rw [(hg c hc).2 e]
    refine br_t (by decide) (hno ?_)
    intro a s h
    rw [e] at h
    cases h
  | some p =>
    obtain ⟨a, s⟩ := p
    obtain ⟨h1, h2, h3⟩ := (hg c hc).1 a s e
    obtain ⟨b1, b2, b3, _, _⟩ := tm_sg_b hS e
    have hna := so_lt a b2
    have hpw : 2 ^ a.length ≤ 2 ^ 3 := Nat.pow_le_pow_right (by decide) b1
    rw [h1]
    refine br_f (nI_pos (by omega)) ?_
    rw [nI_clamp (n := c) (by omega), h2, h3]
    refine pk_le a.length S.length (fun hle => ?_) (fun hgt => ?_)
    · obtain ⟨t1, t2⟩ := so_td S a.length hle hB
      refine nm_r (e' := lN (so_num (S.take a.length))) ?_ ⟨vp_in_nI hc (by omega), ?_⟩
      · rw [show (1 : Int64) <<< ((nI a.length).toInt64 &&& 63) = lN (1 * 2 ^ a.length) from wb_shl 1 (by omega), Nat.one_mul, show lN (2 ^ a.length) - 1 = lN (2 ^ a.length - 1) from lN_sub (b := 1) (Nat.two_pow_pos _), wb_mask (by omega) (by omega), t1]
      · have hnt : so_num (S.take a.length) < 2 ^ 3 := by
          rw [← t1]
          exact Nat.lt_of_lt_of_le (Nat.mod_lt _ (Nat.two_pow_pos _)) hpw
        rw [nI_l (n := so_num a) (by omega), nI_l (n := s) (by omega)]
        by_cases q : S.take a.length = a
        · refine br_t (by rw [q]) ⟨vp_in_nI hc (by omega), ?_⟩
          have hBn : so_B (s :: S.drop a.length) := so_B_mk b3 (so_B_drop hB _)
          have hdl : so_num (S.drop a.length) ≤ so_num S := by
            rw [← t2]
            exact Nat.div_le_self _ _
          refine nm_r (e' := lN (so_num (s :: S.drop a.length))) ?_ (nm_r (e' := nI (s :: S.drop a.length).length) ?_ (nm_r (e' := nI j - 1) ?_ (hok a s e q hBn)))
          · rw [pf_shr (xi_sh _ (by omega)) (by omega), t2, show lN (so_num (S.drop a.length)) <<< ((1 : Int32).toInt64 &&& 63) = lN (so_num (S.drop a.length) * 2 ^ 1) from wb_shl (k := 1) _ (by decide), g_or (k := 1) (p := 2 ^ 1) rfl (by omega) (by omega), so_num_cons]
            exact congrArg lN (by omega)
          · rw [List.length_cons, List.length_drop]
            rw [show nI (S.length - a.length + 1) = nI S.length + nI 1 - nI a.length by rw [nI_add, pk_sub (by omega)]; exact congrArg nI (by omega)]
            show nI S.length + (nI 1 - nI a.length) = _
            rw [Int32.sub_eq_add_neg, Int32.sub_eq_add_neg, Int32.add_assoc]
          · rw [Int32.sub_eq_add_neg]
        · refine br_f ?_ (hno ?_)
          · intro z
            apply q
            rw [lN_eq (by omega) (by omega)] at z
            exact so_inj _ _ (by rw [List.length_take]; omega) (fun x hx => hB x (List.mem_of_mem_take hx)) b2 z
          · intro a2 s2 z2
            rw [e] at z2
            obtain ⟨rfl, rfl⟩ := Prod.mk.inj (Option.some.inj z2)
            exact q
    · refine hno ?_
      intro a2 s2 z2
      rw [e] at z2
      obtain ⟨rfl, rfl⟩ := Prod.mk.inj (Option.some.inj z2)
      intro z
      have := congrArg List.length z
      rw [List.length_take] at this
      omega
theorem xl_sort {post : Int32 → Prop} {n : Nat} {A : Nat → List Nat} {Z : Nat → Nat} (hS : tm_SG n A Z) (hg : sg_X (tm_sg n A Z) ay gs so) (hM : cm_M 49 86 T L m) {s start stop : Nat} (hs : s < 86) (hstop : stop ≤ (m s).length) (h48 : stop ≤ 48) (hst : start ≤ stop + 1)
    (h1 : ∀ sv, tm_ts (tm_sg n A Z) (((m s).take stop).drop start) = some sv → post (nI sv)) (h0 : tm_ts (tm_sg n A Z) (((m s).take stop).drop start) = none → post (-1)) :
    ∀ k j S, j < k → j ≤ stop → (start ≤ j ∨ j = stop) → so_B S → S.length ≤ stop - j → tm_bk (tm_sg n A Z) (((m s).take stop).drop j) = some S → wX_termSort_11 post (nI s) (nI start) xn xq xa xg T L ay gs so E B pv vl el k (lN (so_num S)) (nI S.length) (nI j - 1) := by
  intro k
  induction k with
  | zero => intro j S hj; omega
  | succ k ih =>
    intro j S hj hjs hjj hB hl hb
    rw [wX_termSort_11]
    have hlt : ((m s).take stop).length = stop := by rw [List.length_take]; omega
    by_cases hend : j ≤ start
    · refine br_t ((xi_pl (by omega) (by omega)).mpr hend) ?_
      have e : ((m s).take stop).drop start = ((m s).take stop).drop j := by
        by_cases q : j = start
        · rw [q]
        · rw [List.drop_eq_nil_of_le (by omega), List.drop_eq_nil_of_le (by omega)]
      rw [e] at h1 h0
      have hn := xi_p48 hB (by omega)
      refine pk_eq S.length 1 (fun h => ?_) (fun h => ?_)
      · obtain ⟨a, rfl⟩ := List.length_eq_one_iff.mp h
        rw [lN_i, so_one]
        apply h1
        exact tm_ts_P.mpr ((tm_bk_P _ _).mp hb)
      · apply h0
        apply tm_ts_no
        intro sv hP
        have := (tm_bk_P _ _).mpr hP
        rw [hb] at this
        rw [Option.some.inj this] at h
        exact h rfl
    · refine br_f (by rw [xi_pl (by omega) (by omega)]; exact hend) ?_
      obtain ⟨i, rfl⟩ : ∃ i, j = i + 1 := ⟨j - 1, by omega⟩
      rw [xi_m1']
      have hbb := cm_b hM hs i
      refine xp_sym hM hs (by omega) ?_
      refine br_f (nI_ge (b := 256) hbb (by decide)) ⟨vp_in_nI hbb (by omega), ?_⟩
      rw [nI_clamp (n := tm_at (m s) i) (by omega)]
      have hat : ((m s).take stop).drop i = tm_at (m s) i :: ((m s).take stop).drop (i + 1) := by
        rw [tm_drop_cons (by omega), tm_at_take (by omega)]
      refine xl_sort45 hS hg hbb hB (by omega) (by omega) ?_ ?_
      · intro a sv hga htk hBn
        refine ih i _ (by omega) (by omega) (by omega) hBn ?_ ?_
        · rw [List.length_cons, List.length_drop]
          omega
        · rw [hat, tm_bk, hb]
          dsimp only
          rw [hga]
          dsimp only
          rw [if_pos htk]
      · intro hno
        apply h0
        apply tm_ts_no
        intro sv hP
        have hd : ((((m s).take stop).drop start).drop (i - start)) = ((m s).take stop).drop i := by
          rw [List.drop_drop]
          exact congrArg (fun z => List.drop z _) (by omega)
        obtain ⟨S2, hP2⟩ := tm_P_drop _ _ hP (i - start)
        rw [hd, hat] at hP2
        obtain ⟨a, s2, S3, hga, rfl, hP3⟩ := hP2
        have hb2 := (tm_bk_P _ _).mpr hP3
        rw [hb] at hb2
        apply hno a s2 hga
        rw [Option.some.inj hb2, List.take_left' rfl]
theorem xp_sort {post : Int32 → Prop} {n : Nat} {A : Nat → List Nat} {Z : Nat → Nat} (hS : tm_SG n A Z) (hg : sg_X (tm_sg n A Z) ay gs so) (hM : cm_M 49 86 T L m) {s start stop : Nat} (hs : s < 86) (hstop : stop ≤ (m s).length) (h48 : stop ≤ 48) (hst : start ≤ stop + 1)
    (h1 : ∀ sv, tm_ts (tm_sg n A Z) (((m s).take stop).drop start) = some sv → post (nI sv)) (h0 : tm_ts (tm_sg n A Z) (((m s).take stop).drop start) = none → post (-1)) : wpX_termSort post (xn, xq, xa, xg, T, L, ay, gs, so, E, B, pv, vl, el) (nI s) (nI start) (nI stop) := by
  unfold wpX_termSort
  dsimp only
  refine nm_e ⟨stop + 1, xl_sort hS hg hM hs hstop h48 hst h1 h0 (stop + 1) stop [] (by omega) (Nat.le_refl _) (Or.inr rfl) (fun x hx => nomatch hx) (Nat.zero_le _) ?_⟩
  rw [List.drop_eq_nil_of_le (by rw [List.length_take]; omega)]
  rfl
theorem xl_feq31 {post : Int32 → Prop} {n : Nat} {A : Nat → List Nat} {Z : Nat → Nat} (hS : tm_SG n A Z) (hg : sg_X (tm_sg n A Z) ay gs so) (hM : cm_M 49 86 T L m) (h48 : (m 0).length ≤ 48)
    (h1 : ∀ e, eq_Q (tm_sg n A Z) (m 0) e → post (nI e)) (h0 : (∀ e, ¬ eq_Q (tm_sg n A Z) (m 0) e) → post (-1)) {e : Nat} (he : e ≤ (m 0).length) (h61 : e < (m 0).length → tm_at (m 0) e = 61) (hbe : ∀ j, j < e → tm_at (m 0) j ≠ 61) : wX_findEquation_31 post (nI e) xn xq xa xg T L ay gs so E B pv vl el := by
  unfold wX_findEquation_31
  have g61 : tm_sg n A Z 61 = none := eq_sym hS.1
  have hfail : (∀ s, ¬ (tm_P (tm_sg n A Z) [s] ((m 0).take e) ∧ tm_P (tm_sg n A Z) [s] ((m 0).drop (e + 1)))) → post (-1) := by
    intro hn
    apply h0
    intro e' hQ
    have hQ2 := hQ
    obtain ⟨q1, q2, s, q3, q4⟩ := hQ2
    have hge : e ≤ e' := Nat.le_of_not_lt (fun z => hbe e' z q2)
    have hee : e = e' := eq_Q_only g61 hQ (by omega) (h61 (by omega))
    rw [← hee] at q3 q4
    exact hn s ⟨q3, q4⟩
  refine xp_sort (start := 0) (s := 0) hS hg hM (by omega) he (by omega) (by omega) (fun s1 t1 => ?_) (fun t1 => ?_)
  · rw [List.drop_zero] at t1
    show wpX_termSort _ _ 0 (nI e + 1) (L 0)
    rw [nI_1, cm_len hM (by omega : (0 : Nat) < 86)]
    refine xp_sort (s := 0) hS hg hM (by omega) (Nat.le_refl _) h48 (by omega) (fun s2 t2 => ?_) (fun t2 => ?_)
    · rw [cm_tl (Nat.le_refl _)] at t2
      have p1 := tm_ts_P.mp t1
      have p2 := tm_ts_P.mp t2
      have b1 : s1 < 2 := by
        obtain ⟨a, s, S', hga, hSS, _⟩ := (tm_P_suf p1 (i := 0) (tm_P_ne p1))
        have := tm_P_uniq _ _ _ (show tm_P _ (s :: S') ((m 0).take e) from by rw [List.drop_zero] at hSS; exact hSS) p1
        obtain ⟨rfl, _⟩ := List.cons.inj this
        exact (tm_sg_b hS hga).2.2.1
      have b2 : s2 < 2 := by
        obtain ⟨a, s, S', hga, hSS, _⟩ := (tm_P_suf p2 (i := 0) (tm_P_ne p2))
        have := tm_P_uniq _ _ _ (show tm_P _ (s :: S') ((m 0).drop (e + 1)) from by rw [List.drop_zero] at hSS; exact hSS) p2
        obtain ⟨rfl, _⟩ := List.cons.inj this
        exact (tm_sg_b hS hga).2.2.1
      refine br_f (nI_pos (by omega)) (pk_eq s1 s2 (fun q => ?_) (fun q => ?_))
      · subst q
        apply h1
        have hlen := tm_P_ne p2
        rw [List.length_drop] at hlen
        exact ⟨by omega, h61 (by omega), s1, p1, p2⟩
      · apply hfail
        intro s ⟨r1, r2⟩
        have q1 := tm_P_uniq _ _ _ r1 p1
        have q2 := tm_P_uniq _ _ _ r2 p2
        exact q (by rw [← (List.cons.inj q1).1, (List.cons.inj q2).1])
    · rw [cm_tl (Nat.le_refl _)] at t2
      have hf : post (-1) := by
        apply hfail
        intro s ⟨r1, r2⟩
        rw [tm_ts_P.mpr r2] at t2
        cases t2
      by_cases q : nI s1 < 0
      · exact br_t q hf
      · refine br_f q ?_
        by_cases q2 : nI s1 = -1
        · rw [q2] at q
          exact absurd (by decide) q
        · exact br_f q2 hf
  · rw [List.drop_zero] at t1
    have hf : post (-1) := by
      apply hfail
      intro s ⟨r1, r2⟩
      rw [tm_ts_P.mpr r1] at t1
      cases t1
    show wpX_termSort _ _ 0 (nI e + 1) (L 0)
    rw [nI_1, cm_len hM (by omega : (0 : Nat) < 86)]
    exact xp_sort (s := 0) hS hg hM (by omega) (Nat.le_refl _) h48 (by omega) (fun s2 t2 => br_t (by decide) hf) (fun t2 => br_t (by decide) hf)
theorem xl_feq {post : Int32 → Prop} {n : Nat} {A : Nat → List Nat} {Z : Nat → Nat} (hS : tm_SG n A Z) (hg : sg_X (tm_sg n A Z) ay gs so) (hM : cm_M 49 86 T L m) (h48 : (m 0).length ≤ 48)
    (h1 : ∀ e, eq_Q (tm_sg n A Z) (m 0) e → post (nI e)) (h0 : (∀ e, ¬ eq_Q (tm_sg n A Z) (m 0) e) → post (-1)) : ∀ k i, (m 0).length < k + i → i ≤ (m 0).length → (∀ j, j < i → tm_at (m 0) j ≠ 61) → wX_findEquation_2 post xn xq xa xg T L ay gs so E B pv vl el k (nI i) := by
  intro k
  induction k with
  | zero => intro i a b; omega
  | succ k ih =>
    intro i ha hb hj
    rw [wX_findEquation_2]
    rw [cm_len hM (by omega : (0 : Nat) < 86)]
    refine pk_le (m 0).length i (fun hge => ?_) (fun hlt => ?_)
    · exact xl_feq31 hS hg hM h48 h1 h0 hb (fun z => by omega) hj
    · have hT := cm_t hM (s := 0) (by omega) hlt
      have hbb := cm_b hM (s := 0) (by omega) i
      rw [show (0 : Int32) + nI i = nI (0 * 49 + i) from by rw [show (0 : Int32) + nI i = nI (0 + i) from nI_add 0 i], nI_clamp (by omega), hT]
      refine ⟨vp_in_nI (by omega) (by omega), pk_eq (tm_at (m 0) i) 61 (fun q => ?_) (fun q => ?_)⟩
      · exact xl_feq31 hS hg hM h48 h1 h0 hb (fun _ => q) hj
      · refine nm_r (nI_1 i) (ih (i + 1) (by omega) (by omega) ?_)
        intro j hj2
        by_cases e : j = i
        · rw [e]; exact q
        · exact hj j (by omega)
theorem xp_feq {post : Int32 → Prop} {n : Nat} {A : Nat → List Nat} {Z : Nat → Nat} (hS : tm_SG n A Z) (hg : sg_X (tm_sg n A Z) ay gs so) (hM : cm_M 49 86 T L m) (h48 : (m 0).length ≤ 48)
    (h1 : ∀ e, eq_Q (tm_sg n A Z) (m 0) e → post (nI e)) (h0 : (∀ e, ¬ eq_Q (tm_sg n A Z) (m 0) e) → post (-1)) : wpX_findEquation post (xn, xq, xa, xg, T, L, ay, gs, so, E, B, pv, vl, el) := by
  unfold wpX_findEquation
  dsimp only
  exact ⟨(m 0).length + 1, xl_feq hS hg hM h48 h1 h0 _ 0 (by omega) (Nat.zero_le _) (fun j hj => absurd hj (Nat.not_lt_zero _))⟩
end XB
end
section
/-! 12: the class: ends of subterms, matching, filling in, REPLACE -/
section XC
variable {xn xq xa xg : Int32} {T L ay gs so E B pv vl el : Nat → Int32} {m : Nat → List Nat} {g : tm_G}
theorem tm_mt_pos0 {g : tm_G} {pat : Bool} {w p : List Nat} {q : Nat} {r : Nat × (Nat → Option Nat)} (h : tm_mt g pat w p q (fun _ => none) = some r) : ∀ v q0, r.2 v = some q0 → q0 < w.length := tm_mt_pos p q (fun _ => none) r (fun _ _ z => nomatch z) h
def xe_E (g : tm_G) (w : List Nat) (E : Nat → Int32) : Prop := ∀ q, q < w.length → E q = nI (tm_e g w q)
theorem xl_mark52 {post : SX → Prop} {J : Int32 → (Nat → Int32) → (Nat → Int32) → (Nat → Int32) → (Nat → Int32) → (Nat → Int32) → (Nat → Int32) → (Nat → Int32) → (Nat → Int32) → (Nat → Int32) → (Nat → Int32) → Prop} (hM : cm_M 49 86 T L m) {s i a : Nat} (hs : s < 86) (hi : i < (m s).length) (ha : tm_ar g (tm_at (m s) i) = a) (ha3 : a < 2 ^ 30) (hE : ∀ q, i < q → q < (m s).length → E q = nI (tm_e g (m s) q))
    (hJ : J (nI i + (-1)) T L ay gs so (upd E i (nI (tm_e g (m s) i))) B pv vl el) : ∀ n j, a < n + j → j ≤ a → wX_markSubterms_52 post J (nI s) (nI i) (nI a) xn xq xa xg T L ay gs so E B pv vl el n (nI (i + 1 + tm_en g j ((m s).drop (i + 1)))) (nI j) := by
  have hle := cm_le hM hs
  have hrec := tm_e_rec g hi
  rw [ha] at hrec
  intro n
  induction n with
  | zero => intro j h1 h2; omega
  | succ n ih =>
    intro j h1 h2
    have hen := tm_en_le g ((m s).drop (i + 1)) j
    rw [List.length_drop] at hen
    rw [wX_markSubterms_52]
    dsimp only
    rw [nI_clamp (n := i) (by omega), nI_clamp (n := s) (by omega), cm_len hM hs]
    refine pk_le a j (fun hge => ?_) (fun hlt => ?_)
    · have e : j = a := by omega
      subst e
      rw [← hrec]
      exact ⟨vp_in_nI (by omega) (by omega), nm_e (nm_e hJ)⟩
    · refine ⟨vp_in_nI hs (by omega), pk_le (m s).length _ (fun hge => ?_) (fun hl2 => ?_)⟩
      · have e : i + 1 + tm_en g j ((m s).drop (i + 1)) = tm_e g (m s) i := by
          rw [hrec, show a = j + (a - j) by omega, tm_en_add g _ j (a - j), List.drop_drop, List.drop_eq_nil_of_le hge, tm_en_nil]
          omega
        rw [e]
        exact ⟨vp_in_nI (by omega) (by omega), nm_e (nm_e hJ)⟩
      · refine ⟨vp_in_nI (by omega) (by omega), ?_⟩
        rw [nI_clamp (n := i + 1 + tm_en g j ((m s).drop (i + 1))) (by omega), hE _ (by omega) hl2]
        refine nm_e (nm_r (nI_1 j) ?_)
        rw [← tm_e_iter]
        exact ih (j + 1) (by omega) (by omega)
theorem xl_mark9 {post : SX → Prop} (hg : sg_X g ay gs so) (hM : cm_M 49 86 T L m) {s : Nat} (hs : s < 86) (h3 : ∀ c, tm_ar g c < 2 ^ 30) (h : ∀ E', xe_E g (m s) E' → post (xn, xq, xa, xg, T, L, ay, gs, so, E', B, pv, vl, el)) :
    ∀ n j E, j < n → j ≤ (m s).length → (∀ q, j ≤ q → q < (m s).length → E q = nI (tm_e g (m s) q)) → wX_markSubterms_9 post (nI s) xn xq xa xg n (nI j - 1) T L ay gs so E B pv vl el := by
  have hle := cm_le hM hs
  intro n
  induction n with
  | zero => intro j E hj; omega
  | succ n ih =>
    intro j E hj hjl hE
    rw [wX_markSubterms_9]
    dsimp only
    by_cases hz : j = 0
    · subst hz
      refine br_t (by decide) (h E (fun q hq => hE q (Nat.zero_le _) hq))
    · obtain ⟨i, rfl⟩ : ∃ i, j = i + 1 := ⟨j - 1, by omega⟩
      rw [xi_m1']
      have hbb := cm_b hM hs i
      have hT := cm_t hM hs (i := i) (by omega)
      refine br_f (nI_pos (by omega)) ?_
      rw [xi_ix, nI_clamp (n := s * 49 + i) (by omega), hT]
      refine ⟨vp_in_nI (by omega) (by omega), nm_e (br_f (nI_ge (b := 256) hbb (by decide)) ⟨vp_in_nI hbb (by omega), ?_⟩)⟩
      rw [nI_clamp (n := tm_at (m s) i) (by omega)]
      have hJ : wX_markSubterms_9 post (nI s) xn xq xa xg n (nI i + (-1)) T L ay gs so (upd E i (nI (tm_e g (m s) i))) B pv vl el := by
        rw [← Int32.sub_eq_add_neg]
        refine ih i _ (by omega) (by omega) ?_
        intro q h1 h2
        by_cases e : q = i
        · rw [e, cm_us]
        · rw [cm_un e]
          exact hE q (by omega) h2
      rcases sg_X_ar hg hbb with e | ⟨e, e2, _⟩
      · rw [e]
        refine nm_e (nm_r (nI_1 i) ⟨tm_ar g (tm_at (m s) i) + 1, ?_⟩)
        have := xl_mark52 (post := post) (xn := xn) (xq := xq) (xa := xa) (xg := xg) hM hs (i := i) (by omega) rfl (h3 _) (fun q h1 h2 => hE q (by omega) h2) hJ (tm_ar g (tm_at (m s) i) + 1) 0 (by omega) (Nat.zero_le _)
        rw [tm_en_0, Nat.add_zero] at this
        exact this
      · rw [e]
        refine nm_e (nm_r (nI_1 i) ⟨1, ?_⟩)
        rw [wX_markSubterms_52]
        dsimp only
        have hrec := tm_e_rec g (w := m s) (q := i) (by omega)
        rw [e2, tm_en_0, Nat.add_zero] at hrec
        rw [hrec] at hJ
        refine br_t (by decide) ⟨vp_in_nI (by omega) (by omega), ?_⟩
        rw [nI_clamp (n := i) (by omega)]
        exact nm_e (nm_e hJ)
theorem xp_mark {post : SX → Prop} (hg : sg_X g ay gs so) (hM : cm_M 49 86 T L m) {s : Nat} (hs : s < 86) (h3 : ∀ c, tm_ar g c < 2 ^ 30) (h : ∀ E', xe_E g (m s) E' → post (xn, xq, xa, xg, T, L, ay, gs, so, E', B, pv, vl, el)) : wpX_markSubterms post (xn, xq, xa, xg, T, L, ay, gs, so, E, B, pv, vl, el) (nI s) := by
  unfold wpX_markSubterms
  dsimp only
  rw [nI_clamp (n := s) (by omega), cm_len hM hs]
  refine ⟨vp_in_nI hs (by omega), nm_e ⟨(m s).length + 1, xl_mark9 hg hM hs h3 h _ (m s).length E (by omega) (Nat.le_refl _) ?_⟩⟩
  intro q h1 h2
  omega
theorem xl_same {post : Int32 → Prop} (hM : cm_M 49 86 T L m) {s p q z : Nat} (hs : s < 86) (hp : p + z ≤ (m s).length) (hq : q + z ≤ (m s).length) (h1 : (∀ j, j < z → tm_at (m s) (p + j) = tm_at (m s) (q + j)) → post 1) (h0 : ∀ j, j < z → tm_at (m s) (p + j) ≠ tm_at (m s) (q + j) → post 0) :
    ∀ n i, z < n + i → i ≤ z → (∀ j, j < i → tm_at (m s) (p + j) = tm_at (m s) (q + j)) → wX_sameSubterm_28 post (nI s) (nI p) (nI q) (nI z) xn xq xa xg T L ay gs so E B pv vl el n (nI i) := by
  have hle := cm_le hM hs
  intro n
  induction n with
  | zero => intro i a b; omega
  | succ n ih =>
    intro i a b hj
    rw [wX_sameSubterm_28]
    dsimp only
    refine pk_le z i (fun hge => ?_) (fun hlt => ?_)
    · exact h1 (fun j hj2 => hj j (by omega))
    · have c1 := cm_t hM hs (i := p + i) (by omega)
      have c2 := cm_t hM hs (i := q + i) (by omega)
      have b1 := cm_b hM hs (p + i)
      have b2 := cm_b hM hs (q + i)
      rw [xi_ix, xi_ix, nI_add, nI_add, Nat.add_assoc, Nat.add_assoc, nI_clamp (n := s * 49 + (p + i)) (by omega), nI_clamp (n := s * 49 + (q + i)) (by omega), c1, c2]
      refine ⟨vp_in_nI (by omega) (by omega), vp_in_nI (by omega) (by omega), pk_eq _ _ (fun e => ?_) (fun e => h0 i hlt e)⟩
      refine nm_r (nI_1 i) (ih (i + 1) (by omega) (by omega) ?_)
      intro j hj2
      by_cases q : j = i
      · rw [q]; exact e
      · exact hj j (by omega)
theorem xp_same {post : Int32 → Prop} (hM : cm_M 49 86 T L m) {s p q : Nat} (hs : s < 86) (hE : xe_E g (m s) E) (hp : p < (m s).length) (hq : q < (m s).length) (h1 : tm_sub g (m s) p = tm_sub g (m s) q → post 1) (h0 : tm_sub g (m s) p ≠ tm_sub g (m s) q → post 0) : wpX_sameSubterm post (xn, xq, xa, xg, T, L, ay, gs, so, E, B, pv, vl, el) (nI s) (nI p) (nI q) := by
  unfold wpX_sameSubterm
  dsimp only
  have hle := cm_le hM hs
  have p1 := tm_e_gt g hp
  have p2 := tm_e_le g (Nat.le_of_lt hp)
  have q1 := tm_e_gt g hq
  have q2 := tm_e_le g (Nat.le_of_lt hq)
  have l1 := tm_sub_len g (Nat.le_of_lt hp)
  have l2 := tm_sub_len g (Nat.le_of_lt hq)
  rw [nI_clamp (n := p) (by omega), nI_clamp (n := q) (by omega), hE p hp, hE q hq, pk_sub (by omega), pk_sub (by omega)]
  refine ⟨vp_in_nI (by omega) (by omega), nm_e ⟨vp_in_nI (by omega) (by omega), pk_eq _ _ (fun e => ?_) (fun e => h0 ?_)⟩⟩
  · refine ⟨tm_e g (m s) p - p + 1, xl_same hM hs (by omega) (by omega) (fun hj => h1 ?_) (fun j hj hn => h0 ?_) _ 0 (by omega) (Nat.zero_le _) (fun j hj => absurd hj (Nat.not_lt_zero _))⟩
    · apply tm_ext (by omega)
      intro j hj2
      rw [tm_sub_at g (by omega), tm_sub_at g (by omega)]
      exact hj j (by omega)
    · intro z
      apply hn
      rw [← tm_sub_at g (w := m s) (q := p) (by omega), ← tm_sub_at g (w := m s) (q := q) (by omega), z]
  · intro z
    have := congrArg List.length z
    omega
theorem xl_match {post : Int32 → SX → Prop} (hM : cm_M 49 86 T L m) {s f : Nat} {pat : Bool} {px : Int32} (hs : s < 86) (hf : f < 86) (hE : xe_E g (m s) E) (hp : (pat = true ∧ ¬ px = 0) ∨ (pat = false ∧ px = 0)) :
    ∀ n j q B b, (m f).length < n + j → j ≤ (m f).length → q ≤ (m s).length → rb_X B b → (∀ v q0, b v = some q0 → q0 < (m s).length) →
      (∀ r B', tm_mt g pat (m s) ((m f).drop j) q b = some r → rb_X B' r.2 → post 1 (xn, xq, xa, xg, T, L, ay, gs, so, E, B', pv, vl, el)) → (∀ B', tm_mt g pat (m s) ((m f).drop j) q b = none → post 0 (xn, xq, xa, xg, T, L, ay, gs, so, E, B', pv, vl, el)) → wX_matchesAt_30 post (nI f) (nI s) px xn xq xa xg n (nI q) (nI j) T L ay gs so E B pv vl el := by
  have hls := cm_le hM hs
  have hlf := cm_le hM hf
  intro n
  induction n with
  | zero => intro j q B b h1 h2; omega
  | succ n ih =>
    intro j q B b h1 h2 h3 hB hb hy hn
    rw [wX_matchesAt_30]
    dsimp only
    rw [nI_clamp (n := f) (by omega), nI_clamp (n := s) (by omega), cm_len hM hf, cm_len hM hs]
    refine ⟨vp_in_nI hf (by omega), pk_le (m f).length j (fun hge => ?_) (fun hlt => ⟨vp_in_nI hs (by omega), pk_lt q (m s).length (fun hq => ?_) (fun hq => ?_)⟩)⟩
    · refine hy (q, b) B ?_ hB
      rw [List.drop_eq_nil_of_le hge]
      exact tm_mt_nil
    · have hbp := cm_b hM hf j
      have hbs := cm_b hM hs q
      have hT := cm_t hM hs hq
      rw [tm_drop_cons hlt] at hy hn
      have hsym : ∀ (_ : pat = false ∨ tm_vn (tm_at (m f) j) = none), wX_matchesAt_77 post (wX_matchesAt_30 post (nI f) (nI s) px xn xq xa xg n) (nI f) (nI s) px (nI q) (nI j) (nI (tm_at (m f) j)) (-1) xn xq xa xg T L ay gs so E B pv vl el := by
        intro hv
        rw [tm_mt_sym hq hv] at hy hn
        unfold wX_matchesAt_77
        rw [xi_ix, nI_clamp (n := s * 49 + q) (by omega), hT]
        refine br_t (by decide) ⟨vp_in_nI (by omega) (by omega), pk_eq _ _ (fun e => ?_) (fun e => ?_)⟩
        · rw [if_pos e] at hy hn
          exact nm_r (nI_1 q) (nm_r (nI_1 j) (ih (j + 1) (q + 1) B b (by omega) (by omega) (by omega) hB hb hy hn))
        · rw [if_neg e] at hn
          exact hn B rfl
      refine xp_sym hM hf (by omega) ?_
      rcases hp with ⟨hp1, hp2⟩ | ⟨hp1, hp2⟩
      · subst hp1
        refine br_f hp2 ?_
        refine xp_vnum (by omega) (fun v hv hv16 => ?_) (fun hv => hsym (Or.inr hv))
        have h125 : ∀ (B2 : Nat → Int32) (b2 : Nat → Option Nat), rb_X B2 b2 → (∀ v q0, b2 v = some q0 → q0 < (m s).length) → tm_mt g true (m s) (tm_at (m f) j :: (m f).drop (j + 1)) q b = tm_mt g true (m s) ((m f).drop (j + 1)) (tm_e g (m s) q) b2 →
            wX_matchesAt_125 post (wX_matchesAt_30 post (nI f) (nI s) px xn xq xa xg n) (nI f) (nI s) px (nI q) (nI j) xn xq xa xg T L ay gs so E B2 pv vl el := by
          intro B2 b2 hB2 hb2 he
          rw [he] at hy hn
          unfold wX_matchesAt_125
          rw [nI_clamp (n := q) (by omega), hE q hq]
          exact ⟨vp_in_nI (by omega) (by omega), nm_e (nm_r (nI_1 j) (ih (j + 1) _ B2 b2 (by omega) (by omega) (tm_e_le g h3) hB2 hb2 hy hn))⟩
        show wX_matchesAt_77 _ _ _ _ _ _ _ _ (nI v) _ _ _ _ _ _ _ _ _ _ _ _ _ _
        unfold wX_matchesAt_77
        rw [nI_clamp (n := v) (by omega)]
        refine br_f (nI_pos (by omega)) ⟨vp_in_nI hv16 (by omega), ?_⟩
        cases hbv : b v with
        | none =>
          rw [(hB v hv16).1 hbv]
          refine br_f (by decide) ⟨vp_in_nI hv16 (by omega), nm_e ?_⟩
          refine h125 _ (tm_bu b v q) (rb_X_up hB) ?_ (tm_mt_new hq hv hbv)
          intro v2 q0 h
          unfold tm_bu at h
          by_cases e : v2 = v
          · rw [if_pos e] at h
            rw [← Option.some.inj h]
            exact hq
          · rw [if_neg e] at h
            exact hb v2 q0 h
        | some q0 =>
          have hq0 := hb v q0 hbv
          rw [(hB v hv16).2 q0 hbv]
          refine br_t (nI_pos' (by omega)) ⟨vp_in_nI hv16 (by omega), ?_⟩
          have ho := tm_mt_old (g := g) (w := m s) (p := (m f).drop (j + 1)) (b := b) hq hv hbv
          refine xp_same hM hs hE hq0 hq (fun e => ?_) (fun e => ?_)
          · rw [if_pos e] at ho
            exact br_f (by decide) (h125 B b hB hb ho)
          · rw [if_neg e] at ho
            exact br_t rfl (hn B ho)
      · exact br_t hp2 (hsym (Or.inl hp1))
    · refine hn B ?_
      rw [tm_drop_cons hlt]
      exact tm_mt_out hq
theorem xl_match3 {post : Int32 → SX → Prop} {x1 x2 x3 x4 : Int32} (h : ∀ B', rb_X B' (fun _ => none) → ∃ n, wX_matchesAt_30 post x1 x2 x4 xn xq xa xg n x3 0 T L ay gs so E B' pv vl el) : ∀ n i B, 16 < n + i → i ≤ 16 → (∀ v, v < i → B v = -1) → wX_matchesAt_3 post x1 x2 x3 x4 xn xq xa xg n (nI i) T L ay gs so E B pv vl el := by
  intro n
  induction n with
  | zero => intro i B a b; omega
  | succ n ih =>
    intro i B a b hB
    rw [wX_matchesAt_3]
    dsimp only
    refine pk_le 16 i (fun hge => ?_) (fun hlt => ?_)
    · exact h B (fun v hv => ⟨fun _ => hB v (by omega), fun q0 z => nomatch z⟩)
    · rw [nI_clamp (n := i) (by omega)]
      refine ⟨vp_in_nI hlt (by omega), nm_e (nm_r (nI_1 i) (ih (i + 1) _ (by omega) (by omega) ?_))⟩
      intro v hv
      by_cases e : v = i
      · rw [e, cm_us]
      · rw [cm_un e]
        exact hB v (by omega)
theorem xp_match {post : Int32 → SX → Prop} (hM : cm_M 49 86 T L m) {s f i : Nat} {pat : Bool} {px : Int32} (hs : s < 86) (hf : f < 86) (hE : xe_E g (m s) E) (hp : (pat = true ∧ ¬ px = 0) ∨ (pat = false ∧ px = 0)) (hi : i ≤ (m s).length)
    (hy : ∀ r B', tm_mt g pat (m s) (m f) i (fun _ => none) = some r → rb_X B' r.2 → post 1 (xn, xq, xa, xg, T, L, ay, gs, so, E, B', pv, vl, el)) (hn : ∀ B', tm_mt g pat (m s) (m f) i (fun _ => none) = none → post 0 (xn, xq, xa, xg, T, L, ay, gs, so, E, B', pv, vl, el)) : wpX_matchesAt post (xn, xq, xa, xg, T, L, ay, gs, so, E, B, pv, vl, el) (nI f) (nI s) (nI i) px := by
  unfold wpX_matchesAt
  dsimp only
  refine ⟨17, xl_match3 ?_ 17 0 B (by omega) (by omega) (fun v hv => absurd hv (Nat.not_lt_zero _))⟩
  intro B' hB'
  refine ⟨(m f).length + 1, xl_match hM hs hf hE hp _ 0 i B' (fun _ => none) (by omega) (Nat.zero_le _) hi hB' (fun _ _ z => nomatch z) ?_ ?_⟩
  · rw [List.drop_zero]
    exact hy
  · rw [List.drop_zero]
    exact hn
theorem xi_sub (g : tm_G) (w : List Nat) (q : Nat) : (w.drop q).take (tm_e g w q - q) = tm_sub g w q := by
  unfold tm_e tm_sub
  rw [Nat.add_sub_cancel_left]
theorem xl_inst {post : SX → Prop} {t s p : Nat} (ht : t < 86) (hs : s < 86) (hp : p < 86) (hst : s ≠ t) (hpt : p ≠ t) (hE : xe_E g (m s) E) {b : Nat → Option Nat} (hB : rb_X B b) (hb : ∀ v q0, b v = some q0 → q0 < (m s).length) :
    ∀ n j T L m', (m p).length < n + j → j ≤ (m p).length → m' s = m s → m' p = m p → cm_M 49 86 T L m' → (∀ T' L', cm_M 49 86 T' L' (cm_set m' t ((m' t ++ tm_in g (m s) b ((m p).drop j)).take 49)) → post (xn, xq, xa, xg, T', L', ay, gs, so, E, B, pv, vl, el)) → wX_copyInstance_3 post (nI t) (nI p) (nI s) n (nI j) xn xq xa xg T L ay gs so E B pv vl el := by
  intro n
  induction n with
  | zero => intro j T L m' a b; omega
  | succ n ih =>
    intro j T L m' h1 h2 hms hmp hM h
    have hlp := cm_le hM hp
    have hls := cm_le hM hs
    have hlt := cm_le hM ht
    rw [hmp] at hlp
    rw [hms] at hls
    rw [wX_copyInstance_3]
    dsimp only
    rw [nI_clamp (n := p) (by omega), cm_len hM hp, hmp]
    refine ⟨vp_in_nI hp (by omega), pk_le (m p).length j (fun hge => ?_) (fun hlt2 => ?_)⟩
    · apply h
      rw [List.drop_eq_nil_of_le hge]
      show cm_M 49 86 T L (cm_set m' t ((m' t ++ []).take 49))
      rw [List.append_nil, cm_tl hlt, cm_set_self]
      exact hM
    · rw [tm_drop_cons hlt2] at h
      have hbb := cm_b hM hp j
      refine xp_sym hM hp (by omega) ?_
      rw [hmp]
      rw [hmp] at hbb
      have hnext : ∀ (u : List Nat) T' L', tm_i1 g (m s) b (tm_at (m p) j) = u → cm_M 49 86 T' L' (cm_set m' t ((m' t ++ u).take 49)) → wX_copyInstance_3 post (nI t) (nI p) (nI s) n (nI j + 1) xn xq xa xg T' L' ay gs so E B pv vl el := by
        intro u T' L' hu hM'
        rw [nI_1]
        refine ih (j + 1) T' L' _ (by omega) (by omega) ?_ ?_ hM' ?_
        · rw [cm_set_n hst, hms]
        · rw [cm_set_n hpt, hmp]
        · intro T2 L2 hM2
          apply h
          rw [cm_set_s, cm_set_set, cm_tt, List.append_assoc] at hM2
          show cm_M 49 86 T2 L2 (cm_set m' t ((m' t ++ (tm_i1 g (m s) b (tm_at (m p) j) ++ tm_in g (m s) b ((m p).drop (j + 1)))).take 49))
          rw [hu]
          exact hM2
      have happ : tm_i1 g (m s) b (tm_at (m p) j) = [tm_at (m p) j] → wX_copyInstance_46 post (wX_copyInstance_3 post (nI t) (nI p) (nI s) n) (nI t) (nI p) (nI s) (nI j) (nI (tm_at (m p) j)) (-1) xn xq xa xg T L ay gs so E B pv vl el := by
        intro hu
        unfold wX_copyInstance_46
        refine br_f (by decide) ?_
        exact xp_append hM ht hbb (fun T' L' hM' => nm_e (hnext _ T' L' hu hM'))
      refine xp_vnum (by omega) (fun v hv hv16 => ?_) (fun hv => ?_)
      · refine br_t (nI_pos' (by omega)) ⟨vp_in_nI hv16 (by omega), ?_⟩
        rw [nI_clamp (n := v) (by omega)]
        cases hbv : b v with
        | none =>
          rw [(hB v hv16).1 hbv]
          exact happ (tm_i1_u hv hbv)
        | some q0 =>
          have hq0 := hb v q0 hbv
          rw [(hB v hv16).2 q0 hbv]
          unfold wX_copyInstance_46
          rw [nI_clamp (n := q0) (by omega), hE q0 hq0]
          refine br_t (nI_pos' (by omega)) ⟨vp_in_nI (by omega) (by omega), ?_⟩
          have e1 := tm_e_gt g hq0
          have e2 := tm_e_le g (Nat.le_of_lt hq0)
          refine xp_copySpan hM ht hs hst (by rw [hms]; exact e2) (by omega) (fun T' L' hM' => nm_e (hnext _ T' L' (tm_i1_b hv hbv) ?_))
          rw [hms, xi_sub] at hM'
          exact hM'
      · exact br_f (by decide) (happ (tm_i1_n hv))
theorem xp_inst {post : SX → Prop} (hM : cm_M 49 86 T L m) {t s p : Nat} (ht : t < 86) (hs : s < 86) (hp : p < 86) (hst : s ≠ t) (hpt : p ≠ t) (hE : xe_E g (m s) E) {b : Nat → Option Nat} (hB : rb_X B b) (hb : ∀ v q0, b v = some q0 → q0 < (m s).length)
    (h : ∀ T' L', cm_M 49 86 T' L' (cm_set m t ((m t ++ tm_in g (m s) b (m p)).take 49)) → post (xn, xq, xa, xg, T', L', ay, gs, so, E, B, pv, vl, el)) : wpX_copyInstance post (xn, xq, xa, xg, T, L, ay, gs, so, E, B, pv, vl, el) (nI t) (nI p) (nI s) := by
  unfold wpX_copyInstance
  dsimp only
  refine ⟨(m p).length + 1, xl_inst (m := m) ht hs hp hst hpt hE hB hb _ 0 T L m (by omega) (Nat.zero_le _) rfl rfl hM ?_⟩
  rw [List.drop_zero]
  exact h
theorem xl_repl {post : Int32 → SX → Prop} {s t f p : Nat} {pat : Bool} {px : Int32} (hs : s < 86) (ht : t < 86) (hf : f < 86) (hp : p < 86) (hst : s ≠ t) (hft : f ≠ t) (hpt : p ≠ t) (hE : xe_E g (m s) E) (hpx : (pat = true ∧ ¬ px = 0) ∨ (pat = false ∧ px = 0)) (hl49 : (m s).length ≤ 49) :
    ∀ n i nx pp hits acc T L B, (m s).length < n + i → i ≤ (m s).length → ((i < nx ∧ nx ≤ (m s).length ∧ pp = nx) ∨ (nx ≤ i ∧ pp = i)) → hits ≤ i → cm_M 49 86 T L (cm_set m t (acc.take 49)) →
      (∀ T' L' B', cm_M 49 86 T' L' (cm_set m t ((acc ++ (tm_R g pat (m s) (m f) (m p) pp).2).take 49)) → post (nI (hits + (tm_R g pat (m s) (m f) (m p) pp).1)) (xn, xq, xa, xg, T', L', ay, gs, so, E, B', pv, vl, el)) → wX_replaceAll_21 post (nI s) (nI t) (nI f) (nI p) px n (nI hits) (nI nx) (nI i) xn xq xa xg T L ay gs so E B pv vl el := by
  intro n
  induction n with
  | zero => intro i nx pp hits acc T L B a b; omega
  | succ n ih =>
    intro i nx pp hits acc T L B h1 h2 hc hh hM h
    have es : cm_set m t (acc.take 49) s = m s := cm_set_n hst
    have ef : cm_set m t (acc.take 49) f = m f := cm_set_n hft
    have ep : cm_set m t (acc.take 49) p = m p := cm_set_n hpt
    rw [wX_replaceAll_21]
    dsimp only
    rw [nI_clamp (n := s) (by omega), cm_len hM hs, es]
    refine ⟨vp_in_nI hs (by omega), pk_le (m s).length i (fun hge => ?_) (fun hlt => ?_)⟩
    · have e : (m s).length ≤ pp := by omega
      rw [tm_R_out e, List.append_nil] at h
      exact h T L B hM
    · refine pk_le nx i (fun hge => ?_) (fun hlt2 => ?_)
      · have epp : pp = i := by omega
        subst epp
        refine xp_match (m := cm_set m t (acc.take 49)) (g := g) (pat := pat) hM hs hf (by rw [es]; exact hE) hpx (by rw [es]; omega) ?_ ?_
        · rw [es, ef]
          intro r B' hm hB'
          rw [tm_R_hit hlt hm] at h
          refine br_f (by decide) (nm_r (nI_1 hits) ?_)
          refine xp_inst (m := cm_set m t (acc.take 49)) hM ht hs hp hst hpt (by rw [es]; exact hE) hB' ?_ ?_
          · rw [es]
            exact tm_mt_pos0 hm
          · intro T' L' hM'
            rw [cm_set_s, cm_set_set, cm_tt, es, ep] at hM'
            have e1 := tm_e_gt g hlt
            have e2 := tm_e_le g (Nat.le_of_lt hlt)
            refine ⟨vp_in_nI (by omega) (by omega), ?_⟩
            dsimp only
            rw [nI_clamp (n := pp) (by omega), hE pp hlt]
            refine nm_e (nm_r (nI_1 pp) (ih (pp + 1) _ (tm_e g (m s) pp) (hits + 1) _ T' L' B' (by omega) (by omega) ?_ (by omega) hM' ?_))
            · by_cases q : pp + 1 < tm_e g (m s) pp
              · exact Or.inl ⟨q, e2, rfl⟩
              · exact Or.inr ⟨by omega, by omega⟩
            · intro T2 L2 B2 hM2
              rw [List.append_assoc] at hM2
              have := h T2 L2 B2 hM2
              rw [show hits + ((tm_R g pat (m s) (m f) (m p) (tm_e g (m s) pp)).1 + 1) = hits + 1 + (tm_R g pat (m s) (m f) (m p) (tm_e g (m s) pp)).1 by omega] at this
              exact this
        · rw [es, ef]
          intro B' hm
          rw [tm_R_miss hlt hm] at h
          refine br_t rfl ?_
          show wpX_copySpan _ _ _ _ (nI pp) (nI pp + 1)
          rw [nI_1]
          refine xp_copySpan (m := cm_set m t (acc.take 49)) hM ht hs hst (by rw [es]; omega) (by omega) (fun T' L' hM' => nm_e (ih (pp + 1) nx (pp + 1) hits (acc ++ [tm_at (m s) pp]) T' L' B' (by omega) (by omega) (Or.inr ⟨by omega, rfl⟩) (by omega) ?_ ?_))
          · rw [cm_set_s, cm_set_set, cm_tt, es, show pp + 1 - pp = 1 by omega, tm_drop_cons hlt, List.take_succ_cons, List.take_zero] at hM'
            exact hM'
          · intro T2 L2 B2 hM2
            rw [List.append_assoc] at hM2
            exact h T2 L2 B2 hM2
      · refine nm_r (nI_1 i) (ih (i + 1) nx pp hits acc T L B (by omega) (by omega) ?_ (by omega) hM h)
        by_cases q : i + 1 < nx
        · exact Or.inl ⟨q, by omega, by omega⟩
        · exact Or.inr ⟨by omega, by omega⟩
theorem xp_repl {post : Int32 → SX → Prop} (hg : sg_X g ay gs so) (h3 : ∀ c, tm_ar g c < 2 ^ 30) (hM : cm_M 49 86 T L m) {s t f p : Nat} {pat : Bool} {px : Int32} (hs : s < 86) (ht : t < 86) (hf : f < 86) (hp : p < 86) (hst : s ≠ t) (hft : f ≠ t) (hpt : p ≠ t) (hpx : (pat = true ∧ ¬ px = 0) ∨ (pat = false ∧ px = 0))
    (h : ∀ T' L' E' B', cm_M 49 86 T' L' (cm_set m t ((tm_R g pat (m s) (m f) (m p) 0).2.take 49)) → post (nI (tm_R g pat (m s) (m f) (m p) 0).1) (xn, xq, xa, xg, T', L', ay, gs, so, E', B', pv, vl, el)) : wpX_replaceAll post (xn, xq, xa, xg, T, L, ay, gs, so, E, B, pv, vl, el) (nI s) (nI t) (nI f) (nI p) px := by
  unfold wpX_replaceAll
  dsimp only
  refine xp_mark hg hM hs h3 (fun E' hE' => ?_)
  rw [nI_clamp (n := t) (by omega)]
  refine ⟨vp_in_nI ht (by omega), nm_e ⟨(m s).length + 1, ?_⟩⟩
  refine xl_repl (m := m) (g := g) (pat := pat) hs ht hf hp hst hft hpt hE' hpx (cm_le hM hs) _ 0 0 0 0 [] T _ B (by omega) (Nat.zero_le _) (Or.inr ⟨Nat.le_refl _, rfl⟩) (Nat.le_refl _) (cm_nil hM ht) ?_
  intro T' L' B' hM'
  rw [Nat.zero_add]
  exact h T' L' E' B' hM'
end XC
end
section
/-! 13: the class: rules, fresh variables, NORMALIZE -/
section XD
variable {xn xq xa xg : Int32} {T L ay gs so E B pv vl el : Nat → Int32} {m : Nat → List Nat} {g : tm_G}
def rc_n (R : Nat → List Nat) (c : Nat) : Nat := (if R (4 * (c - 70)) = [] then 0 else 1) + (if R (4 * (c - 70) + 2) = [] then 0 else 1)
theorem rc_2 {R : Nat → List Nat} {c : Nat} : rc_n R c = 2 ↔ tm_cp R c := by
  unfold rc_n tm_cp
  by_cases h1 : R (4 * (c - 70)) = []
  · rw [if_pos h1]
    constructor
    · intro h
      split at h <;> omega
    · exact fun h => absurd h1 h.1
  · rw [if_neg h1]
    by_cases h2 : R (4 * (c - 70) + 2) = []
    · rw [if_pos h2]
      exact ⟨fun h => absurd h (by decide), fun h => absurd h2 h.2⟩
    · rw [if_neg h2]
      exact ⟨fun _ => ⟨h1, h2⟩, fun _ => rfl⟩
theorem rc_le (R : Nat → List Nat) (c : Nat) : rc_n R c ≤ 2 := by
  unfold rc_n
  split <;> split <;> omega
theorem xi_slot {c : Nat} (h : tm_fn c) : (17 : Int32) + 4 * (nI c - 70) = nI (17 + 4 * (c - 70)) := by
  rw [show nI c - 70 = nI (c - 70) from pk_sub (b := 70) h.1, show (4 : Int32) * nI (c - 70) = nI (4 * (c - 70)) from pk_mul 4 _]
  exact nI_add 17 _
theorem xp_single {post : Int32 → Prop} (hM : cm_M 49 86 T L m) {s : Nat} (hs : s < 86) (h1 : (m s).length = 1 → tm_vn (tm_at (m s) 0) ≠ none → post 1) (h0 : ¬ ((m s).length = 1 ∧ tm_vn (tm_at (m s) 0) ≠ none) → post 0) : wpX_isSingleVariable post (xn, xq, xa, xg, T, L, ay, gs, so, E, B, pv, vl, el) (nI s) := by
  unfold wpX_isSingleVariable
  dsimp only
  have hb := cm_b hM hs 0
  have hle := cm_le hM hs
  refine xp_sym (i := 0) hM hs (by omega) ?_
  rw [nI_clamp (n := s) (by omega), cm_len hM hs]
  refine ⟨vp_in_nI hs (by omega), pk_eq (m s).length 1 (fun e => ?_) (fun e => h0 (fun z => e z.1))⟩
  refine xp_vnum (by omega) (fun v hv hv16 => br_f (nI_pos (by omega)) (h1 e (by rw [hv]; exact Option.some_ne_none v))) (fun hv => br_t (by decide) (h0 (fun z => z.2 hv)))
theorem xp_rcount {post : Int32 → Prop} (hM : cm_M 49 86 T L m) {c : Nat} (hc : c < 65536) (h1 : tm_fn c → post (nI (rc_n (iv_R m) c))) (h0 : ¬ tm_fn c → post 0) : wpX_ruleCount post (xn, xq, xa, xg, T, L, ay, gs, so, E, B, pv, vl, el) (nI c) := by
  unfold wpX_ruleCount
  dsimp only
  refine xp_isf hc (fun hf => br_f (by decide) ?_) (fun hf => br_t rfl (h0 hf))
  rw [xi_slot hf]
  refine nm_e ⟨vp_in_nI (by omega) (by omega), ?_⟩
  have e1 : 17 + 4 * (c - 70) < 86 := by omega
  have l1 := cm_le hM e1
  have e2 : 17 + (4 * (c - 70) + 2) < 86 := by omega
  have l2 := cm_le hM e2
  rw [nI_clamp (n := 17 + 4 * (c - 70)) (by omega), cm_len hM e1]
  have h33 : ∀ k : Nat, k < 2 → (k = if iv_R m (4 * (c - 70)) = [] then 0 else 1) → wX_ruleCount_33 post (nI (17 + 4 * (c - 70))) (nI k) xn xq xa xg T L ay gs so E B pv vl el := by
    intro k hk ek
    unfold wX_ruleCount_33
    rw [show nI (17 + 4 * (c - 70)) + 2 = nI (17 + (4 * (c - 70) + 2)) from by rw [← Nat.add_assoc]; exact nI_add _ 2]
    rw [nI_clamp (n := 17 + (4 * (c - 70) + 2)) (by omega), cm_len hM e2]
    refine ⟨vp_in_nI e2 (by omega), pk_le (m (17 + (4 * (c - 70) + 2))).length 0 (fun z => ?_) (fun z => ?_)⟩
    · have hr : rc_n (iv_R m) c = k + 0 := by
        unfold rc_n
        rw [← ek, if_pos (show iv_R m (4 * (c - 70) + 2) = [] from List.eq_nil_of_length_eq_zero (show (m (17 + (4 * (c - 70) + 2))).length = 0 by omega))]
      have := h1 hf
      rw [hr, ← nI_add] at this
      exact this
    · have hr : rc_n (iv_R m) c = k + 1 := by
        unfold rc_n
        rw [← ek, if_neg (show ¬ iv_R m (4 * (c - 70) + 2) = [] from fun y => by
          have y' : (m (17 + (4 * (c - 70) + 2))).length = 0 := congrArg List.length y
          omega)]
      have := h1 hf
      rw [hr, ← nI_add] at this
      exact this
  refine pk_le (m (17 + 4 * (c - 70))).length 0 (fun z => h33 0 (by omega) ?_) (fun z => h33 1 (by omega) ?_)
  · rw [if_pos (show iv_R m (4 * (c - 70)) = [] from List.eq_nil_of_length_eq_zero (show (m (17 + 4 * (c - 70))).length = 0 by omega))]
  · rw [if_neg (show ¬ iv_R m (4 * (c - 70)) = [] from fun y => by
      have y' : (m (17 + 4 * (c - 70))).length = 0 := congrArg List.length y
      omega)]
theorem xp_top {post : Int32 → Prop} {ng : Nat} (h0 : 1 ≤ ng) (h8 : ng ≤ 8) (h : post (nI (49 + 4 * (ng - 1)))) : wpX_topGoal post (xn, xq, xa, nI ng, T, L, ay, gs, so, E, B, pv, vl, el) := by
  unfold wpX_topGoal
  dsimp only
  refine br_f (nI_nle (by omega) (by omega)) ?_
  rw [xi_m1 h0, show (4 : Int32) * nI (ng - 1) = nI (4 * (ng - 1)) from pk_mul 4 _, show (49 : Int32) + nI (4 * (ng - 1)) = nI (49 + 4 * (ng - 1)) from nI_add 49 _]
  exact h
def fr_l (p : Nat → Prop) (lo v : Nat) : Prop := lo ≤ v ∧ v < lo + 8 ∧ ¬ p v ∧ ∀ u, lo ≤ u → u < v → p u
theorem fr_u {p : Nat → Prop} {lo v v' : Nat} (h : fr_l p lo v) (h' : fr_l p lo v') : v = v' := by
  apply Nat.le_antisymm
  · apply Nat.le_of_not_lt
    intro z
    exact h'.2.2.1 (h.2.2.2 v' h'.1 z)
  · apply Nat.le_of_not_lt
    intro z
    exact h.2.2.1 (h'.2.2.2 v h.1 z)
theorem xl_fresh {post : Int32 → Prop} {k lo : Nat} {p : Nat → Prop} (hk : vb_S k p) (hlo : lo ≤ 8) (h1 : ∀ v, fr_l p lo v → post (nI v)) (h0 : (∀ v, lo ≤ v → v < lo + 8 → p v) → post (-1)) : ∀ n v, lo + 8 < n + v → lo ≤ v → v ≤ lo + 8 → (∀ u, lo ≤ u → u < v → p u) → wX_freshVariable_51 post (nI k) (nI lo) xn xq xa xg T L ay gs so E B pv vl el n (nI v) := by
  intro n
  induction n with
  | zero => intro v a b c; omega
  | succ n ih =>
    intro v a b c hu
    rw [wX_freshVariable_51]
    dsimp only
    rw [show nI lo + 8 = nI (lo + 8) from nI_add lo 8]
    refine pk_le (lo + 8) v (fun hge => h0 (fun u u1 u2 => hu u u1 (by omega))) (fun hlt => ?_)
    obtain ⟨b0, b1⟩ := vb_S_bit hk (v := v) (by omega)
    by_cases hp : p v
    · refine br_f (fun z => b0.mp z hp) (nm_r (nI_1 v) (ih (v + 1) (by omega) (by omega) (by omega) ?_))
      intro u u1 u2
      by_cases e : u = v
      · rw [e]; exact hp
      · exact hu u u1 (by omega)
    · exact br_t (b0.mpr hp) (h1 v ⟨b, hlt, hp, hu⟩)
theorem xp_fresh {post : Int32 → Prop} (hM : cm_M 49 86 T L m) {ng sv : Nat} (hg0 : 1 ≤ ng) (hg8 : ng ≤ 8) (hsv : sv < 2) (h1 : ∀ v, fr_l (fun v => tm_vc v ∈ m (49 + 4 * (ng - 1)) ∨ tm_vc v ∈ m (49 + 4 * (ng - 1) + 1) ∨ tm_vc v ∈ m (49 + 4 * (ng - 1) + 2) ∨ tm_vc v ∈ m (49 + 4 * (ng - 1) + 3)) (8 * sv) v → post (nI v))
    (h0 : (∀ v, 8 * sv ≤ v → v < 8 * sv + 8 → tm_vc v ∈ m (49 + 4 * (ng - 1)) ∨ tm_vc v ∈ m (49 + 4 * (ng - 1) + 1) ∨ tm_vc v ∈ m (49 + 4 * (ng - 1) + 2) ∨ tm_vc v ∈ m (49 + 4 * (ng - 1) + 3)) → post (-1)) : wpX_freshVariable post (xn, xq, xa, nI ng, T, L, ay, gs, so, E, B, pv, vl, el) (nI sv) := by
  unfold wpX_freshVariable
  dsimp only
  refine xp_top hg0 hg8 ?_
  refine xp_varsOf hM (by omega) (fun k1 s1 => ?_)
  rw [show nI (49 + 4 * (ng - 1)) + 1 = nI (49 + 4 * (ng - 1) + 1) from nI_1 _]
  refine xp_varsOf hM (by omega) (fun k2 s2 => ?_)
  rw [show nI (49 + 4 * (ng - 1)) + 2 = nI (49 + 4 * (ng - 1) + 2) from nI_add _ 2]
  refine xp_varsOf hM (by omega) (fun k3 s3 => ?_)
  rw [show nI (49 + 4 * (ng - 1)) + 3 = nI (49 + 4 * (ng - 1) + 3) from nI_add _ 3]
  refine xp_varsOf hM (by omega) (fun k4 s4 => ?_)
  refine nm_r (show ((nI k1 ||| nI k2) ||| nI k3) ||| nI k4 = nI (((k1 ||| k2) ||| k3) ||| k4) by rw [vb_or, vb_or, vb_or]) ?_
  have hk := vb_S_iff (q := fun v => tm_vc v ∈ m (49 + 4 * (ng - 1)) ∨ tm_vc v ∈ m (49 + 4 * (ng - 1) + 1) ∨ tm_vc v ∈ m (49 + 4 * (ng - 1) + 2) ∨ tm_vc v ∈ m (49 + 4 * (ng - 1) + 3)) (fun v _ => by
    constructor
    · rintro (((a | a) | a) | a)
      · exact Or.inl a
      · exact Or.inr (Or.inl a)
      · exact Or.inr (Or.inr (Or.inl a))
      · exact Or.inr (Or.inr (Or.inr a))
    · rintro (a | a | a | a)
      · exact Or.inl (Or.inl (Or.inl a))
      · exact Or.inl (Or.inl (Or.inr a))
      · exact Or.inl (Or.inr a)
      · exact Or.inr a) (vb_S_or (vb_S_or (vb_S_or s1 s2) s3) s4)
  have e : sv = 0 ∨ sv = 1 := by omega
  rcases e with rfl | rfl
  · exact br_t rfl ⟨9, xl_fresh (lo := 0) hk (by omega) h1 h0 9 0 (by omega) (by omega) (by omega) (fun u a b => absurd b (Nat.not_lt_zero _))⟩
  · exact br_f (by decide) ⟨9, xl_fresh (lo := 8) hk (by omega) h1 h0 9 8 (by omega) (by omega) (by omega) (fun u a b => absurd b (by omega))⟩
theorem tm_rx_last {w : List Nat} {n : Nat} (h : w.length = n + 1) : tm_rx w (n + 1) = tm_rx w n := by
  rw [tm_rx, if_neg]
  intro z
  have := tm_rd_lt z
  omega
theorem xl_redex {post : Int32 → Prop} (hM : cm_M 49 86 T L m) {s : Nat} (hs : s < 86) : ∀ n j, j < n → j ≤ (m s).length → (∀ i, tm_rx (m s) j = some i → post (nI i)) → (tm_rx (m s) j = none → post (-1)) → wX_lastRedex_9 post (nI s) xn xq xa xg T L ay gs so E B pv vl el n (nI j - 1) := by
  have hle := cm_le hM hs
  intro n
  induction n with
  | zero => intro j a; omega
  | succ n ih =>
    intro j a b h1 h0
    rw [wX_lastRedex_9]
    dsimp only
    by_cases hz : j = 0
    · subst hz
      exact br_t (by decide) (h0 rfl)
    · obtain ⟨i, rfl⟩ : ∃ i, j = i + 1 := ⟨j - 1, by omega⟩
      rw [xi_m1']
      rw [tm_rx] at h1 h0
      have b1 := cm_b hM hs i
      have b2 := cm_b hM hs (i + 1)
      have hnext : ¬ tm_rd (m s) i → wX_lastRedex_9 post (nI s) xn xq xa xg T L ay gs so E B pv vl el n (nI i + (-1)) := by
        intro hn
        rw [if_neg hn] at h1 h0
        rw [← Int32.sub_eq_add_neg]
        exact ih i (by omega) (by omega) h1 h0
      refine br_f (nI_pos (by omega)) ?_
      refine xp_sym hM hs (by omega) ?_
      rw [nI_1]
      refine xp_sym hM hs (by omega) ?_
      refine xp_isf (by omega) (fun hf => br_f (by decide) ?_) (fun hf => br_t rfl (nm_e (hnext (fun z => hf z.1))))
      refine xp_kind (by omega) (fun k hk => ?_) (fun hk => br_t (by decide) (nm_e (hnext (fun z => z.2 hk))))
      have hk2 : k < 2 := by
        have := tm_kd_c hk
        omega
      have hr : tm_rd (m s) i := ⟨hf, by rw [hk]; exact Option.some_ne_none k⟩
      rw [if_pos hr] at h1
      exact br_f (nI_pos (by omega)) (h1 i rfl)
theorem xp_redex {post : Int32 → Prop} (hM : cm_M 49 86 T L m) {s : Nat} (hs : s < 86) (h1 : ∀ i, tm_rx (m s) (m s).length = some i → post (nI i)) (h0 : tm_rx (m s) (m s).length = none → post (-1)) : wpX_lastRedex post (xn, xq, xa, xg, T, L, ay, gs, so, E, B, pv, vl, el) (nI s) := by
  unfold wpX_lastRedex
  dsimp only
  have hle := cm_le hM hs
  rw [nI_clamp (n := s) (by omega), cm_len hM hs]
  refine ⟨vp_in_nI hs (by omega), ?_⟩
  by_cases hz : (m s).length = 0
  · rw [hz] at h1 h0 ⊢
    refine nm_e ⟨1, ?_⟩
    rw [wX_lastRedex_9]
    dsimp only
    exact br_t (by decide) (h0 rfl)
  · obtain ⟨k, hk⟩ : ∃ k, (m s).length = k + 1 := ⟨(m s).length - 1, by omega⟩
    rw [hk, tm_rx_last hk] at h1 h0
    rw [hk]
    refine nm_r (e' := nI k - 1) ?_ ⟨k + 1, xl_redex hM hs (k + 1) k (by omega) (by omega) h1 h0⟩
    rw [← nI_1 k, Int32.sub_eq_add_neg, Int32.sub_eq_add_neg, Int32.add_assoc, show (1 : Int32) + -2 = -1 from by decide]
theorem xl_st {w x : List Nat} {a e : Nat} (y : List Nat) (h : e ≤ w.length) : ((((([] : List Nat) ++ (w.drop 0).take (a - 0)).take 49 ++ y).take 49) ++ (w.drop e).take (w.length - e)).take 49 = (w.take a ++ (y ++ w.drop e)).take 49 := by
  rw [List.drop_zero, Nat.sub_zero, List.nil_append, cm_tt, List.append_assoc, cm_tt, cm_tl (x := w.drop e) (by rw [List.length_drop]; omega)]
theorem xl_norm {post : Int32 → SX → Prop} (hG : tm_GS g) (hR : tm_RU g (iv_R m)) (hg : sg_X g ay gs so) (h3 : ∀ c, tm_ar g c < 2 ^ 30) {s : Nat} (hs : s < 83) (hs2 : 81 ≤ s) {S : List Nat} {o : Option (List Nat)}
    (h1 : ∀ w', o = some w' → ∀ T' L' E' B' m', cm_M 49 86 T' L' m' → m' s = w' → (∀ u, u ≠ s → u ≠ 83 → m' u = m u) → post 1 (xn, xq, xa, xg, T', L', ay, gs, so, E', B', pv, vl, el))
    (h0 : o = none → ∀ T' L' E' B' m', cm_M 49 86 T' L' m' → (∀ u, u ≠ s → u ≠ 83 → m' u = m u) → post 0 (xn, xq, xa, xg, T', L', ay, gs, so, E', B', pv, vl, el)) :
    ∀ n st T L E B m', 129 < n + st → st ≤ 129 → cm_M 49 86 T L m' → (∀ u, u ≠ s → u ≠ 83 → m' u = m u) → (st ≤ 128 → (m' s).length ≤ 48 → tm_nz g (iv_R m) (128 - st) (m' s) = o ∧ tm_P g S (m' s) ∧ tm_FC (iv_R m) (m' s)) → (st = 129 ∨ 48 < (m' s).length → o = none) → wX_normalize_2 post (nI s) n (nI st) xn xq xa xg T L ay gs so E B pv vl el := by
  intro n
  induction n with
  | zero => intro st T L E B m' a b; omega
  | succ n ih =>
    intro st T L E B m' ha hb hM hfr hok hno
    have hs86 : s < 86 := by omega
    have hle := cm_le hM hs86
    rw [wX_normalize_2]
    dsimp only
    refine pk_lt 128 st (fun hgt => h0 (hno (Or.inl (by omega))) T L E B m' hM hfr) (fun hst => ?_)
    rw [nI_clamp (n := s) (by omega), cm_len hM hs86]
    refine ⟨vp_in_nI hs86 (by omega), pk_le (m' s).length 48 (fun hl => ?_) (fun hl => h0 (hno (Or.inr hl)) T L E B m' hM hfr)⟩
    obtain ⟨hnz, hP, hF⟩ := hok hst hl
    refine xp_redex hM hs86 (fun i hi => ?_) (fun hi => ?_)
    · obtain ⟨hil, hrd⟩ := tm_rx_lt _ _ hi
      obtain ⟨r, hmm, hne, hst2, hP', hF'⟩ := tm_st_ok hG hR hP hF hrd
      have hil2 := tm_rd_lt hrd
      have hfn : tm_fn (tm_at (m' s) i) := hrd.1
      obtain ⟨k, hk⟩ : ∃ k, tm_kd (tm_at (m' s) (i + 1)) = some k := Option.ne_none_iff_exists'.mp hrd.2
      have hk2 : k < 2 := by
        have := tm_kd_c hk
        omega
      have hri : tm_ri (m' s) i = 4 * (tm_at (m' s) i - 70) + 2 * k := by
        unfold tm_ri
        rw [hk]
        rfl
      have b1 := cm_b hM hs86 i
      have b2 := cm_b hM hs86 (i + 1)
      have hrs : 17 + tm_ri (m' s) i < 48 := by omega
      refine br_t (nI_pos' (by omega)) ?_
      refine xp_sym hM hs86 (by omega) ?_
      rw [nI_1 i]
      refine xp_sym hM hs86 (by omega) ?_
      unfold wpX_ruleSlot
      refine xp_kind (by omega) (fun k' hk' => ?_) (fun hk' => by rw [hk] at hk'; cases hk')
      rw [hk] at hk'
      obtain rfl := Option.some.inj hk'
      rw [show (17 : Int32) + 4 * (nI (tm_at (m' s) i) - 70) + 2 * nI k = nI (17 + tm_ri (m' s) i) by
        rw [xi_slot hfn, show (2 : Int32) * nI k = nI (2 * k) from pk_mul 2 k, nI_add, hri, Nat.add_assoc]]
      refine xp_mark hg hM hs86 h3 (fun E' hE' => ?_)
      have hru : m' (17 + tm_ri (m' s) i) = iv_R m (tm_ri (m' s) i) := hfr _ (by omega) (by omega)
      have hru2 : m' (17 + tm_ri (m' s) i + 1) = iv_R m (tm_ri (m' s) i + 1) := hfr _ (by omega) (by omega)
      refine xp_match (g := g) (pat := true) hM hs86 (by omega) hE' (Or.inl ⟨rfl, by decide⟩) (by omega) ?_ ?_
      · rw [hru]
        intro r' B' hm' hB'
        rw [hmm] at hm'
        obtain rfl := Option.some.inj hm'
        have hpos := tm_mt_pos0 hmm
        refine nm_e ?_
        have hM1 := cm_nil hM (s := 83) (by omega)
        have q1 : ∀ {u : List Nat}, cm_set m' 83 u s = m' s := cm_set_n (by omega)
        have q2 : ∀ {u : List Nat}, cm_set m' 83 u (17 + tm_ri (m' s) i + 1) = m' (17 + tm_ri (m' s) i + 1) := cm_set_n (by omega)
        refine xp_copySpan (s := s) (t := 83) (start := 0) hM1 (by omega) hs86 (by omega) (by rw [q1]; omega) (Nat.zero_le _) (fun T2 L2 hM2 => ?_)
        rw [cm_set_s, cm_set_set, q1] at hM2
        rw [show nI (17 + tm_ri (m' s) i) + 1 = nI (17 + tm_ri (m' s) i + 1) from nI_1 _]
        refine xp_inst (g := g) (s := s) (t := 83) hM2 (by omega) hs86 (by omega) (by omega) (by omega) (by rw [q1]; exact hE') hB' (by rw [q1]; exact hpos) (fun T3 L3 hM3 => ?_)
        rw [cm_set_s, cm_set_set, q1, q2, hru2] at hM3
        have hl3 := cm_len hM3 hs86
        rw [q1] at hl3
        have e1 := tm_e_gt g (w := m' s) (q := i) (by omega)
        have e2 := tm_e_le g (w := m' s) (q := i) (by omega)
        refine ⟨vp_in_nI (by omega) (by omega), vp_in_nI hs86 (by omega), ?_⟩
        dsimp only
        rw [nI_clamp (n := i) (by omega), hl3, hE' i (by omega)]
        refine xp_copySpan (s := s) (t := 83) hM3 (by omega) hs86 (by omega) (by rw [q1]; exact Nat.le_refl _) e2 (fun T4 L4 hM4 => ?_)
        rw [cm_set_s, cm_set_set, q1, xl_st (x := []) _ e2, ← hst2] at hM4
        refine xp_copyText (s := 83) (t := s) hM4 hs86 (by omega) (by omega) (fun T5 L5 hM5 => ?_)
        rw [cm_set_s] at hM5
        refine nm_r (nI_1 st) (ih (st + 1) T5 L5 E' B' _ (by omega) (by omega) hM5 ?_ ?_ ?_)
        · intro u u1 u2
          rw [cm_set_n u1, cm_set_n u2]
          exact hfr u u1 u2
        · rw [cm_set_s]
          intro t1 t2
          have hlen : (tm_st g (iv_R m) (m' s) i).length ≤ 48 := by
            rw [List.length_take] at t2
            omega
          rw [cm_tl (by omega)]
          refine ⟨?_, hP', hF'⟩
          rw [show 128 - st = (128 - (st + 1)) + 1 by omega, tm_nz_s hi, if_pos hlen] at hnz
          exact hnz
        · rw [cm_set_s]
          intro t1
          by_cases hz : st = 128
          · subst hz
            rw [Nat.sub_self, tm_nz_0 hi] at hnz
            exact hnz.symm
          · rcases t1 with t1 | t1
            · omega
            · rw [List.length_take] at t1
              rw [show 128 - st = (128 - (st + 1)) + 1 by omega, tm_nz_s hi, if_neg (by omega)] at hnz
              exact hnz.symm
      · rw [hru, hmm]
        intro B' z
        cases z
    · rw [tm_nz_no hi] at hnz
      exact br_f (by decide) (h1 _ hnz.symm T L E B m' hM rfl hfr)
theorem xp_norm {post : Int32 → SX → Prop} (hG : tm_GS g) (hR : tm_RU g (iv_R m)) (hg : sg_X g ay gs so) (h3 : ∀ c, tm_ar g c < 2 ^ 30) (hM : cm_M 49 86 T L m) {s : Nat} (hs : s < 83) (hs2 : 81 ≤ s) {S : List Nat} (hw : (m s).length ≤ 48 → tm_P g S (m s) ∧ tm_FC (iv_R m) (m s))
    (h1 : ∀ w', (m s).length ≤ 48 → tm_nz g (iv_R m) 128 (m s) = some w' → ∀ T' L' E' B' m', cm_M 49 86 T' L' m' → m' s = w' → (∀ u, u ≠ s → u ≠ 83 → m' u = m u) → post 1 (xn, xq, xa, xg, T', L', ay, gs, so, E', B', pv, vl, el))
    (h0 : ((m s).length ≤ 48 → tm_nz g (iv_R m) 128 (m s) = none) → ∀ T' L' E' B' m', cm_M 49 86 T' L' m' → (∀ u, u ≠ s → u ≠ 83 → m' u = m u) → post 0 (xn, xq, xa, xg, T', L', ay, gs, so, E', B', pv, vl, el)) : wpX_normalize post (xn, xq, xa, xg, T, L, ay, gs, so, E, B, pv, vl, el) (nI s) := by
  unfold wpX_normalize
  dsimp only
  by_cases hl : (m s).length ≤ 48
  · refine ⟨130, xl_norm (m := m) (o := tm_nz g (iv_R m) 128 (m s)) (S := S) hG hR hg h3 hs hs2 (fun w' e => h1 w' hl e) (fun e => h0 (fun _ => e)) 130 0 T L E B m (by omega) (by omega) hM (fun _ _ _ => rfl) (fun _ _ => ⟨rfl, hw hl⟩) (fun z => by omega)⟩
  · refine ⟨130, xl_norm (m := m) (o := none) (S := S) hG hR hg h3 hs hs2 (fun w' e => nomatch e) (fun _ => h0 (fun z => absurd z hl)) 130 0 T L E B m (by omega) (by omega) hM (fun _ _ _ => rfl) (fun _ z => absurd z hl) (fun _ => rfl)⟩
theorem xl_sameT {post : Int32 → Prop} (hM : cm_M 49 86 T L m) {a b : Nat} (ha : a < 86) (hb : b < 86) (hab : (m a).length = (m b).length) (h1 : m a = m b → post 1) (h0 : m a ≠ m b → post 0) : ∀ n i, (m a).length < n + i → i ≤ (m a).length → (∀ j, j < i → tm_at (m a) j = tm_at (m b) j) → wX_sameText_19 post (nI a) (nI b) xn xq xa xg T L ay gs so E B pv vl el n (nI i) := by
  have hle := cm_le hM ha
  intro n
  induction n with
  | zero => intro i a b; omega
  | succ n ih =>
    intro i a1 b1 hj
    rw [wX_sameText_19]
    dsimp only
    rw [nI_clamp (n := a) (by omega), cm_len hM ha]
    refine ⟨vp_in_nI ha (by omega), pk_le (m a).length i (fun hge => h1 (tm_ext hab (fun j hj2 => hj j (by omega)))) (fun hlt => ?_)⟩
    have c1 := cm_t hM ha hlt
    have c2 := cm_t hM hb (i := i) (by omega)
    have d1 := cm_b hM ha i
    have d2 := cm_b hM hb i
    rw [xi_ix, xi_ix, nI_clamp (n := a * 49 + i) (by omega), nI_clamp (n := b * 49 + i) (by omega), c1, c2]
    refine ⟨vp_in_nI (by omega) (by omega), vp_in_nI (by omega) (by omega), pk_eq (tm_at (m a) i) (tm_at (m b) i) (fun e => ?_) (fun e => h0 (fun z => e (by rw [z])))⟩
    refine nm_r (nI_1 i) (ih (i + 1) (by omega) (by omega) ?_)
    intro j hj2
    by_cases q : j = i
    · rw [q]; exact e
    · exact hj j (by omega)
theorem xp_sameT {post : Int32 → Prop} (hM : cm_M 49 86 T L m) {a b : Nat} (ha : a < 86) (hb : b < 86) (h1 : m a = m b → post 1) (h0 : m a ≠ m b → post 0) : wpX_sameText post (xn, xq, xa, xg, T, L, ay, gs, so, E, B, pv, vl, el) (nI a) (nI b) := by
  unfold wpX_sameText
  dsimp only
  have l1 := cm_le hM ha
  have l2 := cm_le hM hb
  rw [nI_clamp (n := a) (by omega), nI_clamp (n := b) (by omega), cm_len hM ha, cm_len hM hb]
  refine ⟨vp_in_nI ha (by omega), vp_in_nI hb (by omega), pk_eq (m a).length (m b).length (fun e => ?_) (fun e => h0 (fun z => e (by rw [z])))⟩
  exact ⟨_, xl_sameT hM ha hb e h1 h0 ((m a).length + 1) 0 (by omega) (Nat.zero_le _) (fun j hj => absurd hj (Nat.not_lt_zero _))⟩
end XD
end
section
/-! 14: the class: feed, the judging of rules and conjectures -/
section XE
variable {xn xq xa xg : Int32} {T L ay gs so E B pv vl el : Nat → Int32} {m : Nat → List Nat}
theorem xi_ch {c : Nat} (h : c < 65536) : ((nI c).toUInt32 % 65536).toInt32 = nI c := by
  rw [pk_char, pk_tn (by omega), Nat.mod_eq_of_lt h]
theorem xi_0a (i : Nat) : (0 : Int32) + nI i = nI (0 * 49 + i) := by
  rw [show (0 : Int32) + nI i = nI (0 + i) from nI_add 0 i, Nat.zero_mul]
theorem xl_feed {post : Int32 → SX → Prop} {w0 w1 w2 w3 : Int32} (hM0 : cm_M 49 86 T L m)
    (h1 : (m 0).length + (fd_l (fd_b w0 w1 w2 w3) 16 0).length ≤ 48 → ∀ T' L', cm_M 49 86 T' L' (cm_set m 0 (m 0 ++ fd_l (fd_b w0 w1 w2 w3) 16 0)) → post (nI ((m 0).length + (fd_l (fd_b w0 w1 w2 w3) 16 0).length)) (xn, xq, xa, xg, T', L', ay, gs, so, E, B, pv, vl, el))
    (h0 : 48 < (m 0).length + (fd_l (fd_b w0 w1 w2 w3) 16 0).length → ∀ T', cm_M 49 86 T' L m → post (-4) (xn, xq, xa, xg, T', L, ay, gs, so, E, B, pv, vl, el)) :
    ∀ n j p T, 16 < n + j → j ≤ 16 → p ++ fd_l (fd_b w0 w1 w2 w3) (16 - j) j = fd_l (fd_b w0 w1 w2 w3) 16 0 → (m 0).length + p.length ≤ 48 → cm_M 49 86 T (upd L 0 (nI (m 0 ++ p).length)) (cm_set m 0 (m 0 ++ p)) → wX_feed_11 post w0 w1 w2 w3 xn xq xa xg n (nI (m 0 ++ p).length) (nI j) T L ay gs so E B pv vl el := by
  intro n
  induction n with
  | zero => intro j p T a b; omega
  | succ n ih =>
    intro j p T ha hb hp hl hM
    have hlen : (m 0 ++ p).length = (m 0).length + p.length := List.length_append
    have hfin : p = fd_l (fd_b w0 w1 w2 w3) 16 0 → post (nI (m 0 ++ p).length) (xn, xq, xa, xg, T, upd L 0 (nI (m 0 ++ p).length), ay, gs, so, E, B, pv, vl, el) := by
      intro e
      rw [hlen] at hM ⊢
      rw [e] at hM hl ⊢
      exact h1 hl _ _ hM
    have h52 : ∀ z0, z0 = fd_w w0 w1 w2 w3 j → j < 16 → wX_feed_52 post (wX_feed_11 post w0 w1 w2 w3 xn xq xa xg n) w0 w1 w2 w3 (nI (m 0 ++ p).length) (nI j) z0 xn xq xa xg T L ay gs so E B pv vl el := by
      intro z0 ez hj
      unfold wX_feed_52
      have hbl := fd_b_lt w0 w1 w2 w3 j
      refine nm_r (e' := nI (fd_b w0 w1 w2 w3 j)) ?_ ?_
      · rw [ez, show nI j &&& 3 = nI (j % 2 ^ 2) from pk_andN (by omega) 2 (by decide), show (8 : Int32) * nI (j % 2 ^ 2) = nI (8 * (j % 2 ^ 2)) from pk_mul 8 _]
        exact fd_b_e w0 w1 w2 w3 j
      · refine pk_eq (fd_b w0 w1 w2 w3 j) 0 (fun e => ?_) (fun e => ?_)
        · rw [fd_l_0 e, List.append_nil] at hp
          exact nm_e (hfin hp)
        · rw [show 16 - j = (16 - (j + 1)) + 1 by omega, fd_l_s e] at hp
          refine pk_lt (m 0 ++ p).length 48 (fun hlt => ?_) (fun hge => ?_)
          · rw [xi_0a, nI_clamp (n := 0 * 49 + (m 0 ++ p).length) (by omega), xi_ch (by omega), xi_nar (by omega)]
            refine ⟨vp_in_nI (by omega) (by omega), nm_e (nm_r (nI_1 _) (nm_r (nI_1 j) ?_))⟩
            have hP := cm_put hM (s := 0) (by omega) (n := (m 0 ++ p).length) (by rw [cm_set_s]) (by omega) hbl
            rw [cm_uu, cm_set_s, cm_set_set, List.append_assoc] at hP
            have e2 : (m 0 ++ p).length + 1 = (m 0 ++ (p ++ [fd_b w0 w1 w2 w3 j])).length := by
              rw [List.length_append, List.length_append, List.length_append, List.length_singleton]
              omega
            rw [e2] at hP ⊢
            refine ih (j + 1) (p ++ [fd_b w0 w1 w2 w3 j]) _ (by omega) (by omega) ?_ ?_ hP
            · rw [List.append_assoc]
              exact hp
            · rw [List.length_append, List.length_singleton]
              omega
          · refine h0 ?_ T ?_
            · rw [← hp, List.length_append, List.length_cons]
              omega
            · have hC := cm_cut hM (s := 0) (k := (m 0).length) (by omega) (by rw [cm_set_s]; omega)
              rw [cm_uu, cm_set_s, cm_set_set, List.take_left' rfl, cm_set_self, cm_ue (cm_len hM0 (by omega))] at hC
              exact hC
    rw [wX_feed_11]
    dsimp only
    refine pk_le 16 j (fun hge => ?_) (fun hlt => ?_)
    · have e : j = 16 := by omega
      subst e
      have e3 : p = fd_l (fd_b w0 w1 w2 w3) 16 0 := by
        rw [← hp]
        exact (List.append_nil p).symm
      exact nm_e (hfin e3)
    · refine pk_le 4 j (fun a4 => pk_le 8 j (fun a8 => pk_le 12 j (fun a12 => h52 _ ?_ hlt) (fun a12 => h52 _ ?_ hlt)) (fun a8 => h52 _ ?_ hlt)) (fun a4 => h52 _ ?_ hlt)
      · unfold fd_w
        rw [if_neg (by omega), if_neg (by omega), if_neg (by omega)]
      · unfold fd_w
        rw [if_neg (by omega), if_neg (by omega), if_pos (by omega)]
      · unfold fd_w
        rw [if_neg (by omega), if_pos (by omega)]
      · unfold fd_w
        rw [if_pos (by omega)]
theorem xp_feed {post : Int32 → SX → Prop} {w0 w1 w2 w3 : Int32} (hM : cm_M 49 86 T L m) (h48 : (m 0).length ≤ 48)
    (h1 : (m 0).length + (fd_l (fd_b w0 w1 w2 w3) 16 0).length ≤ 48 → ∀ T' L', cm_M 49 86 T' L' (cm_set m 0 (m 0 ++ fd_l (fd_b w0 w1 w2 w3) 16 0)) → post (nI ((m 0).length + (fd_l (fd_b w0 w1 w2 w3) 16 0).length)) (xn, xq, xa, xg, T', L', ay, gs, so, E, B, pv, vl, el))
    (h0 : 48 < (m 0).length + (fd_l (fd_b w0 w1 w2 w3) 16 0).length → ∀ T', cm_M 49 86 T' L m → post (-4) (xn, xq, xa, xg, T', L, ay, gs, so, E, B, pv, vl, el)) : wpX_feed post (xn, xq, xa, xg, T, L, ay, gs, so, E, B, pv, vl, el) w0 w1 w2 w3 := by
  unfold wpX_feed
  dsimp only
  have hl := cm_len hM (s := 0) (by omega)
  refine nm_r hl ⟨17, ?_⟩
  have := xl_feed (xn := xn) (xq := xq) (xa := xa) (xg := xg) (ay := ay) (gs := gs) (so := so) (E := E) (B := B) (pv := pv) (vl := vl) (el := el) hM h1 h0 17 0 [] T (by omega) (by omega) rfl (by rw [List.length_nil]; omega) (by
    rw [List.append_nil, cm_set_self, cm_ue hl]
    exact hM)
  rw [List.append_nil] at this
  exact this
/-! rules -/
theorem xl_left {post : Int32 → Prop} (hM : cm_M 49 86 T L m) {e : Nat} (he : e ≤ (m 0).length) (hf : tm_fn (tm_at (m 0) 0)) (hk : tm_kd (tm_at (m 0) 1) ≠ none) (h1 : eq_FL (m 0) e → post 1) (h0 : ¬ eq_FL (m 0) e → post 0) :
    ∀ n i k, e - i < n → 2 ≤ i → i < 100 → (∀ j, 2 ≤ j → j < i → tm_vn (tm_at (m 0) j) ≠ none) → (∀ a b, 2 ≤ a → a < b → b < i → tm_at (m 0) a ≠ tm_at (m 0) b) → vb_S k (fun v => ∃ j, 2 ≤ j ∧ j < i ∧ tm_at (m 0) j = tm_vc v) → wX_isRuleLeft_36 post (nI e) xn xq xa xg T L ay gs so E B pv vl el n (nI k) (nI i) := by
  have hle := cm_le hM (s := 0) (by omega)
  intro n
  induction n with
  | zero => intro i k a; omega
  | succ n ih =>
    intro i k ha hb h100 hv hd hS
    rw [wX_isRuleLeft_36]
    dsimp only
    refine pk_le e i (fun hge => h1 ⟨hf, hk, fun j a b => hv j a (by omega), fun a b x y z => hd a b x y (by omega)⟩) (fun hlt => ?_)
    have hbb := cm_b hM (s := 0) (by omega) i
    refine xp_sym (s := 0) hM (by omega) (by omega) ?_
    refine xp_vnum (by omega) (fun v hvn hv16 => ?_) (fun hvn => br_t (by decide) (h0 (fun z => z.2.2.1 i hb hlt hvn)))
    obtain ⟨b0, b1⟩ := vb_S_bit hS hv16
    refine br_f (nI_pos (by omega)) ?_
    by_cases hp : ∃ j, 2 ≤ j ∧ j < i ∧ tm_at (m 0) j = tm_vc v
    · refine br_t (b1.mpr hp) (h0 (fun z => ?_))
      obtain ⟨j, j1, j2, j3⟩ := hp
      apply z.2.2.2 j i j1 j2 hlt
      rw [j3, (tm_vn_ch hvn).1]
    · refine br_f (fun z => hp (b1.mp z)) (nm_r (by rw [vb_one hv16, vb_or]) (nm_r (nI_1 i) (ih (i + 1) _ (by omega) (by omega) (by omega) ?_ ?_ (vb_S_iff ?_ (vb_S_or hS (vb_S_one hv16))))))
      · intro j j1 j2
        by_cases q : j = i
        · rw [q, hvn]
          exact Option.some_ne_none v
        · exact hv j j1 (by omega)
      · intro a b a1 a2 a3
        by_cases q : b = i
        · subst q
          intro z
          exact hp ⟨a, a1, a2, by rw [z, (tm_vn_ch hvn).1]⟩
        · exact hd a b a1 a2 (by omega)
      · intro u hu
        constructor
        · rintro (⟨j, j1, j2, j3⟩ | q)
          · exact ⟨j, j1, by omega, j3⟩
          · exact ⟨i, hb, by omega, by rw [q, (tm_vn_ch hvn).1]⟩
        · rintro ⟨j, j1, j2, j3⟩
          by_cases q : j = i
          · right
            rw [q, (tm_vn_ch hvn).1] at j3
            exact xi_vcinj hu hv16 j3.symm
          · exact Or.inl ⟨j, j1, by omega, j3⟩
theorem xp_left {post : Int32 → Prop} (hM : cm_M 49 86 T L m) {e : Nat} (he : e ≤ (m 0).length) (h1 : eq_FL (m 0) e → post 1) (h0 : ¬ eq_FL (m 0) e → post 0) : wpX_isRuleLeft post (xn, xq, xa, xg, T, L, ay, gs, so, E, B, pv, vl, el) (nI e) := by
  unfold wpX_isRuleLeft
  dsimp only
  have hle := cm_le hM (s := 0) (by omega)
  have b0 := cm_b hM (s := 0) (by omega) 0
  have b1 := cm_b hM (s := 0) (by omega) 1
  refine xp_sym (s := 0) (i := 0) hM (by omega) (by omega) ?_
  refine xp_sym (s := 0) (i := 1) hM (by omega) (by omega) ?_
  refine xp_isf (by omega) (fun hf => br_f (by decide) ?_) (fun hf => br_t rfl (h0 (fun z => hf z.1)))
  refine xp_kind (by omega) (fun k hk => ?_) (fun hk => br_f (by decide) (h0 (fun z => z.2.1 hk)))
  have hk2 : k < 2 := by
    have := tm_kd_c hk
    omega
  refine br_t (nI_pos' (by omega)) ⟨e + 1, xl_left hM he hf (by rw [hk]; exact Option.some_ne_none k) h1 h0 _ 2 0 (by omega) (by omega) (by omega) (fun j a b => by omega) (fun a b x y z => by omega) (vb_S_iff ?_ vb_S_0)⟩
  intro v _
  exact ⟨fun z => z.elim, fun ⟨j, j1, j2, _⟩ => by omega⟩
theorem xp_recv {post : Int32 → Prop} (hM : cm_M 49 86 T L m) (h : post (nI (eq_rc (m 0)))) : wpX_recursionVariable post (xn, xq, xa, xg, T, L, ay, gs, so, E, B, pv, vl, el) := by
  unfold wpX_recursionVariable
  dsimp only
  have b1 := cm_b hM (s := 0) (by omega) 1
  have b2 := cm_b hM (s := 0) (by omega) 2
  have b3 := cm_b hM (s := 0) (by omega) 3
  unfold eq_rc at h
  refine xp_sym (s := 0) (i := 1) hM (by omega) (by omega) ?_
  refine pk_eq (tm_at (m 0) 1) 83 (fun e => ?_) (fun e => pk_eq (tm_at (m 0) 1) 67 (fun e2 => ?_) (fun e2 => ?_))
  · rw [if_pos e] at h
    exact xp_sym (s := 0) (i := 2) hM (by omega) (by omega) ⟨(pk_charN (by omega)).1, h⟩
  · rw [if_neg e, if_pos e2] at h
    exact xp_sym (s := 0) (i := 3) hM (by omega) (by omega) ⟨(pk_charN (by omega)).1, h⟩
  · rw [if_neg e, if_neg e2] at h
    exact h
theorem eq_rc_lt {W N : Nat} {T L : Nat → Int32} {m : Nat → List Nat} (hM : cm_M W N T L m) {s : Nat} (hs : s < N) : eq_rc (m s) < 256 := by
  unfold eq_rc
  have b2 := cm_b hM hs 2
  have b3 := cm_b hM hs 3
  split
  · exact b2
  · split
    · exact b3
    · decide
theorem xl_r131 {post : Int32 → Prop} {J : Int32 → Prop} {x4 x5 x6 x9 z0 : Int32} {c : Nat} (hc : c < 65536) (hJ : ¬ tm_fn c ∨ ¬ x9 = 0 ∨ ¬ z0 = 0 → J (x6 + 1)) (h0 : tm_fn c → x9 = 0 → z0 = 0 → post 0) : wX_isRuleRight_131 post J x4 x5 x6 (nI c) x9 z0 xn xq xa xg T L ay gs so E B pv vl el := by
  unfold wX_isRuleRight_131
  refine xp_isf hc (fun hf => br_f (by decide) (br_c (fun e => br_c (fun e2 => h0 hf e e2) (fun e2 => nm_e (hJ (Or.inr (Or.inr e2))))) (fun e => nm_e (hJ (Or.inr (Or.inl e)))))) (fun hf => br_t rfl (nm_e (hJ (Or.inl hf))))
theorem xl_r107 {post : Int32 → Prop} {J : Int32 → Prop} {x5 x6 z0 : Int32} (hM : cm_M 49 86 T L m) {c f : Nat} (hc : c < 65536) (hf : f < 65536) (hJ : ¬ tm_fn c ∨ ¬ z0 = 0 ∨ (c < f ∧ tm_cp (iv_R m) c) → J (x6 + 1)) (h0 : tm_fn c → z0 = 0 → ¬ (c < f ∧ tm_cp (iv_R m) c) → post 0) : wX_isRuleRight_107 post J (nI f) x5 x6 (nI c) z0 xn xq xa xg T L ay gs so E B pv vl el := by
  unfold wX_isRuleRight_107 wX_isRuleRight_130
  have hno : ¬ (c < f ∧ tm_cp (iv_R m) c) → wX_isRuleRight_131 post J (nI f) x5 x6 (nI c) z0 0 xn xq xa xg T L ay gs so E B pv vl el := by
    intro hn
    refine xl_r131 hc (fun h => ?_) (fun h1 h2 _ => h0 h1 h2 hn)
    rcases h with h | h | h
    · exact hJ (Or.inl h)
    · exact hJ (Or.inr (Or.inl h))
    · exact absurd rfl h
  refine pk_le f c (fun hge => hno (fun z => by omega)) (fun hlt => ?_)
  refine xp_rcount hM hc (fun hfn => ?_) (fun hfn => br_f (by decide) (xl_r131 hc (fun h => hJ (Or.inl hfn)) (fun h1 _ _ => absurd h1 hfn)))
  have hle := rc_le (iv_R m) c
  refine pk_eq (rc_n (iv_R m) c) 2 (fun e => ?_) (fun e => hno (fun z => e (rc_2.mpr z.2)))
  exact xl_r131 hc (fun _ => hJ (Or.inr (Or.inr ⟨hlt, rc_2.mp e⟩))) (fun _ _ z => absurd z (by decide))
theorem xl_right {post : Int32 → Prop} (hM : cm_M 49 86 T L m) {e : Nat} (h1 : eq_FF (iv_R m) (m 0) e → post 1) (h0 : ¬ eq_FF (iv_R m) (m 0) e → post 0) :
    ∀ n i, (m 0).length - i < n → e < i → i < 100 → (∀ j, e < j → j < i → eq_F1 (iv_R m) (m 0) j) → wX_isRuleRight_52 post (nI (tm_at (m 0) 0)) (nI (eq_rc (m 0))) xn xq xa xg T L ay gs so E B pv vl el n (nI i) := by
  have hle := cm_le hM (s := 0) (by omega)
  have b0 := cm_b hM (s := 0) (by omega) 0
  have brc := eq_rc_lt hM (s := 0) (by omega)
  intro n
  induction n with
  | zero => intro i a; omega
  | succ n ih =>
    intro i ha hb h100 hF
    rw [wX_isRuleRight_52]
    dsimp only
    rw [cm_len hM (by omega : (0 : Nat) < 86)]
    refine pk_le (m 0).length i (fun hge => h1 (fun j a b => hF j a (by omega))) (fun hlt => ?_)
    have bi := cm_b hM (s := 0) (by omega) i
    have bj := cm_b hM (s := 0) (by omega) (i + 1)
    have hJ : eq_F1 (iv_R m) (m 0) i → wX_isRuleRight_52 post (nI (tm_at (m 0) 0)) (nI (eq_rc (m 0))) xn xq xa xg T L ay gs so E B pv vl el n (nI i + 1) := by
      intro hf
      rw [nI_1]
      refine ih (i + 1) (by omega) (by omega) (by omega) (fun j a b => ?_)
      by_cases q : j = i
      · rw [q]; exact hf
      · exact hF j a (by omega)
    have hN : ¬ eq_F1 (iv_R m) (m 0) i → post 0 := fun hn => h0 (fun z => hn (z i hb hlt))
    have h106 : ¬ (tm_at (m 0) i = tm_at (m 0) 0 ∧ eq_rc (m 0) ≠ 0 ∧ tm_at (m 0) (i + 1) = eq_rc (m 0)) → wX_isRuleRight_107 post (wX_isRuleRight_52 post (nI (tm_at (m 0) 0)) (nI (eq_rc (m 0))) xn xq xa xg T L ay gs so E B pv vl el n) (nI (tm_at (m 0) 0)) (nI (eq_rc (m 0))) (nI i) (nI (tm_at (m 0) i)) 0 xn xq xa xg T L ay gs so E B pv vl el := by
      intro hn
      refine xl_r107 hM (by omega) (by omega) (fun h => hJ (fun hf => ?_)) (fun hf _ hc => hN (fun z => ?_))
      · rcases h with h | h | h
        · exact absurd hf h
        · exact absurd rfl h
        · exact Or.inl h
      · rcases z hf with z | z
        · exact hc z
        · exact hn z
    refine xp_sym (s := 0) hM (by omega) (by omega) ?_
    rw [nI_1 i]
    refine xp_sym (s := 0) hM (by omega) (by omega) ?_
    refine pk_eq (tm_at (m 0) i) (tm_at (m 0) 0) (fun q1 => pk_eq (eq_rc (m 0)) 0 (fun q2 => ?_) (fun q2 => pk_eq (tm_at (m 0) (i + 1)) (eq_rc (m 0)) (fun q3 => ?_) (fun q3 => ?_))) (fun q1 => ?_)
    · exact h106 (fun z => z.2.1 q2)
    · exact xl_r107 hM (by omega) (by omega) (fun _ => hJ (fun _ => Or.inr ⟨q1, q2, q3⟩)) (fun _ z _ => absurd z (by decide))
    · exact h106 (fun z => q3 z.2.2)
    · exact h106 (fun z => q1 z.1)
theorem xi_FV {w : List Nat} {e : Nat} (he : e < w.length) : (∀ v, v < 16 → tm_vc v ∈ (w.take w.length).drop (e + 1) → tm_vc v ∈ (w.take e).drop 0) ↔ eq_FV w e := by
  rw [cm_tl (Nat.le_refl _), List.drop_zero]
  constructor
  · intro h i h1 h2 h3
    obtain ⟨v, hv⟩ := Option.ne_none_iff_exists'.mp h3
    obtain ⟨hc, hv16⟩ := tm_vn_ch hv
    have hm : tm_vc v ∈ w.drop (e + 1) := by
      rw [← hc, show i = e + 1 + (i - (e + 1)) by omega, ← tm_at_drop]
      exact tm_at_mem (by rw [List.length_drop]; omega)
    obtain ⟨j, hj, q⟩ := tm_mem_at (h v hv16 hm)
    rw [List.length_take] at hj
    rw [tm_at_take (by omega)] at q
    exact ⟨j, by omega, by rw [q, hc]⟩
  · intro h v hv16 hm
    obtain ⟨i, hi, q⟩ := tm_mem_at hm
    rw [List.length_drop] at hi
    rw [tm_at_drop] at q
    obtain ⟨j, hj, q2⟩ := h (e + 1 + i) (by omega) (by omega) (by rw [q, tm_vn_vc hv16]; exact Option.some_ne_none v)
    rw [← q, ← q2, ← tm_at_take (w := w) hj]
    exact tm_at_mem (by rw [List.length_take]; omega)
theorem xp_right {post : Int32 → Prop} (hM : cm_M 49 86 T L m) {e : Nat} (he : e < (m 0).length) (h1 : eq_FV (m 0) e → eq_FF (iv_R m) (m 0) e → post 1) (h0 : ¬ (eq_FV (m 0) e ∧ eq_FF (iv_R m) (m 0) e) → post 0) : wpX_isRuleRight post (xn, xq, xa, xg, T, L, ay, gs, so, E, B, pv, vl, el) (nI e) := by
  unfold wpX_isRuleRight
  dsimp only
  have hle := cm_le hM (s := 0) (by omega)
  refine xp_vars (s := 0) (start := 0) hM (by omega) (by omega) (by omega) (fun k1 s1 => ?_)
  rw [nI_1 e, cm_len hM (by omega : (0 : Nat) < 86)]
  refine xp_vars (s := 0) hM (by omega) (Nat.le_refl _) (by omega) (fun k2 s2 => ?_)
  have hd := (vb_diff s2 s1).trans (xi_FV he)
  by_cases hv : eq_FV (m 0) e
  · refine br_t (hd.mpr hv) ?_
    refine xp_sym (s := 0) (i := 0) hM (by omega) (by omega) ?_
    refine xp_recv hM ?_
    refine nm_e ⟨(m 0).length + 1, xl_right hM (h1 hv) (fun z => h0 (fun y => z y.2)) _ (e + 1) (by omega) (by omega) (by omega) (fun j a b => by omega)⟩
  · exact br_f (fun z => hv (hd.mp z)) (h0 (fun z => hv z.1))
theorem xp_bslot {post : Int32 → Prop} (hM : cm_M 49 86 T L m) {k : Nat} (hf : tm_fn (tm_at (m 0) 0)) (hk : tm_kd (tm_at (m 0) 1) = some k) (h : post (nI (17 + (4 * (tm_at (m 0) 0 - 70) + 2 * k)))) : wpX_bufferRuleSlot post (xn, xq, xa, xg, T, L, ay, gs, so, E, B, pv, vl, el) := by
  unfold wpX_bufferRuleSlot
  dsimp only
  have b1 := cm_b hM (s := 0) (by omega) 1
  refine xp_sym (s := 0) (i := 0) hM (by omega) (by omega) ?_
  refine xp_sym (s := 0) (i := 1) hM (by omega) (by omega) ?_
  unfold wpX_ruleSlot
  refine xp_kind (by omega) (fun k' hk' => ?_) (fun hk' => by rw [hk] at hk'; cases hk')
  rw [hk] at hk'
  obtain rfl := Option.some.inj hk'
  rw [xi_slot hf, show (2 : Int32) * nI k = nI (2 * k) from pk_mul 2 k, nI_add, Nat.add_assoc]
  exact h
theorem xp_judgeR {post : Int32 → Prop} (hM : cm_M 49 86 T L m) {e : Nat} (he : e < (m 0).length) (hF : ¬ eq_F (iv_R m) (m 0) e → post (-2)) (hD : ∀ k, eq_F (iv_R m) (m 0) e → tm_kd (tm_at (m 0) 1) = some k → iv_R m (4 * (tm_at (m 0) 0 - 70) + 2 * k) ≠ [] → post (-3))
    (hO : ∀ k, eq_F (iv_R m) (m 0) e → tm_kd (tm_at (m 0) 1) = some k → iv_R m (4 * (tm_at (m 0) 0 - 70) + 2 * k) = [] → post 0) : wpX_judgeRule post (xn, xq, xa, xg, T, L, ay, gs, so, E, B, pv, vl, el) (nI e) := by
  unfold wpX_judgeRule
  dsimp only
  have hle := cm_le hM (s := 0) (by omega)
  refine br_t (nI_pos' (by omega)) ?_
  refine xp_left hM (by omega) (fun hL => br_f (by decide) ?_) (fun hL => br_t rfl (hF (fun z => hL z.1)))
  refine xp_right hM he (fun hV hFF => br_f (by decide) ?_) (fun hn => br_t rfl (hF (fun z => hn z.2)))
  obtain ⟨k, hk⟩ := Option.ne_none_iff_exists'.mp hL.2.1
  have hk2 : k < 2 := by
    have := tm_kd_c hk
    omega
  have hf : tm_fn (tm_at (m 0) 0) := hL.1
  have hs : 17 + (4 * (tm_at (m 0) 0 - 70) + 2 * k) < 86 := by omega
  have hl2 := cm_le hM hs
  refine xp_bslot hM hf hk ⟨vp_in_nI hs (by omega), ?_⟩
  rw [nI_clamp (n := 17 + (4 * (tm_at (m 0) 0 - 70) + 2 * k)) (by omega), cm_len hM hs]
  refine pk_le (m (17 + (4 * (tm_at (m 0) 0 - 70) + 2 * k))).length 0 (fun z => hO k ⟨hL, hV, hFF⟩ hk (List.eq_nil_of_length_eq_zero (show (m (17 + (4 * (tm_at (m 0) 0 - 70) + 2 * k))).length = 0 by omega))) (fun z => hD k ⟨hL, hV, hFF⟩ hk (fun y => ?_))
  have y' : (m (17 + (4 * (tm_at (m 0) 0 - 70) + 2 * k))).length = 0 := congrArg List.length y
  omega
theorem xl_judgeC {post : Int32 → Prop} {q : Nat} (hq : q ≤ 8) (hM : cm_M 49 86 T L m) (hF : ¬ tm_FC (iv_R m) (m 0) → post (-2)) (hU : tm_FC (iv_R m) (m 0) → q = 8 → post (-4)) (hO : tm_FC (iv_R m) (m 0) → q < 8 → post 0) :
    ∀ n i, (m 0).length - i < n → i ≤ (m 0).length → (∀ j, j < i → tm_fn (tm_at (m 0) j) → tm_cp (iv_R m) (tm_at (m 0) j)) → wX_judgeConjecture_8 post xn (nI q) xa xg T L ay gs so E B pv vl el n (nI i) := by
  have hle := cm_le hM (s := 0) (by omega)
  intro n
  induction n with
  | zero => intro i a; omega
  | succ n ih =>
    intro i ha hb hj
    rw [wX_judgeConjecture_8]
    dsimp only
    rw [cm_len hM (by omega : (0 : Nat) < 86)]
    refine pk_le (m 0).length i (fun hge => ?_) (fun hlt => ?_)
    · have hFC : tm_FC (iv_R m) (m 0) := by
        intro c hc hf
        obtain ⟨j, hj2, rfl⟩ := tm_mem_at hc
        exact hj j (by omega) hf
      exact pk_lt q 8 (fun z => hO hFC z) (fun z => hU hFC (by omega))
    · have bi := cm_b hM (s := 0) (by omega) i
      have hnext : (tm_fn (tm_at (m 0) i) → tm_cp (iv_R m) (tm_at (m 0) i)) → wX_judgeConjecture_8 post xn (nI q) xa xg T L ay gs so E B pv vl el n (nI i + 1) := by
        intro hf
        rw [nI_1]
        refine ih (i + 1) (by omega) (by omega) (fun j h2 => ?_)
        by_cases z : j = i
        · rw [z]; exact hf
        · exact hj j (by omega)
      refine xp_sym (s := 0) hM (by omega) (by omega) ?_
      refine xp_isf (by omega) (fun hf => br_f (by decide) ?_) (fun hf => br_t rfl (nm_e (hnext (fun z => absurd z hf))))
      have hrc := rc_le (iv_R m) (tm_at (m 0) i)
      refine xp_rcount hM (by omega) (fun _ => ?_) (fun z => absurd hf z)
      refine pk_le 2 (rc_n (iv_R m) (tm_at (m 0) i)) (fun z => nm_e (hnext (fun _ => rc_2.mp (by omega)))) (fun z => hF (fun hFC => ?_))
      have := rc_2.mpr (hFC _ (tm_at_mem hlt) hf)
      omega
theorem xp_judgeC {post : Int32 → Prop} {q e : Nat} (hq : q ≤ 8) (hM : cm_M 49 86 T L m) (he : e < (m 0).length) (hF : ¬ tm_FC (iv_R m) (m 0) → post (-2)) (hU : tm_FC (iv_R m) (m 0) → q = 8 → post (-4)) (hO : tm_FC (iv_R m) (m 0) → q < 8 → post 0) : wpX_judgeConjecture post (xn, nI q, xa, xg, T, L, ay, gs, so, E, B, pv, vl, el) (nI e) := by
  unfold wpX_judgeConjecture
  dsimp only
  have hle := cm_le hM (s := 0) (by omega)
  refine br_t (nI_pos' (by omega)) ⟨(m 0).length + 1, xl_judgeC hq hM hF hU hO _ 0 (by omega) (Nat.zero_le _) (fun j a => absurd a (Nat.not_lt_zero _))⟩
end XE
end
section
/-! 15: the class: defineRule, conjecture, and what simp, useHyp, useLemma share -/
theorem tm_ar_lt {n : Nat} {A : Nat → List Nat} {Z : Nat → Nat} (hS : tm_SG n A Z) (c : Nat) : tm_ar (tm_sg n A Z) c < 2 ^ 30 := by
  cases e : tm_sg n A Z c with
  | none =>
    unfold tm_ar
    rw [e]
    decide
  | some p =>
    obtain ⟨a, s⟩ := p
    rw [tm_ar_some e]
    have := (tm_sg_b hS e).1
    omega
def tm_N (g : tm_G) (R : Nat → List Nat) (w : List Nat) : Option (List Nat) := if w.length ≤ 48 then tm_nz g R 128 w else none
theorem tm_N_take {g : tm_G} {R : Nat → List Nat} {w : List Nat} : tm_N g R (w.take 49) = tm_N g R w := by
  unfold tm_N
  by_cases h : w.length ≤ 48
  · rw [cm_tl (by omega), if_pos h]
  · rw [if_neg h, if_neg (by rw [List.length_take]; omega)]
theorem tm_nz_ext {g : tm_G} {R R' : Nat → List Nat} (h : ∀ i, i < 32 → R' i = R i) (n : Nat) : ∀ w, tm_nz g R' n w = tm_nz g R n w := by
  have hst : ∀ w i, tm_rx w w.length = some i → tm_st g R' w i = tm_st g R w i := by
    intro w i hi
    have hr := (tm_rx_lt _ _ hi).2
    have hfn : tm_fn (tm_at w i) := hr.1
    obtain ⟨k, hk⟩ : ∃ k, tm_kd (tm_at w (i + 1)) = some k := Option.ne_none_iff_exists'.mp hr.2
    have hk2 : k < 2 := by
      have := tm_kd_c hk
      omega
    have hri : tm_ri w i = 4 * (tm_at w i - 70) + 2 * k := by
      unfold tm_ri
      rw [hk]
      rfl
    unfold tm_st
    rw [h (tm_ri w i) (by omega), h (tm_ri w i + 1) (by omega)]
  induction n with
  | zero =>
    intro w
    cases hx : tm_rx w w.length with
    | none => rw [tm_nz_no hx, tm_nz_no hx]
    | some i => rw [tm_nz_0 hx, tm_nz_0 hx]
  | succ n ih =>
    intro w
    cases hx : tm_rx w w.length with
    | none => rw [tm_nz_no hx, tm_nz_no hx]
    | some i => rw [tm_nz_s hx, tm_nz_s hx, hst w i hx, ih]
theorem tm_N_ext {g : tm_G} {R R' : Nat → List Nat} (h : ∀ i, i < 32 → R' i = R i) (w : List Nat) : tm_N g R' w = tm_N g R w := by
  unfold tm_N
  rw [tm_nz_ext h]
theorem tm_N_ok {g : tm_G} {R : Nat → List Nat} {S w w' : List Nat} (hG : tm_GS g) (hR : tm_RU g R) (h : w.length ≤ 48 → tm_P g S w ∧ tm_FC R w) (e : tm_N g R w = some w') : tm_P g S w' ∧ tm_FC R w' ∧ w'.length ≤ 48 := by
  unfold tm_N at e
  by_cases hl : w.length ≤ 48
  · rw [if_pos hl] at e
    exact tm_nz_ok hG hR 128 w w' (h hl).1 (h hl).2 hl e
  · rw [if_neg hl] at e
    cases e
section XF
variable {xn xq xa xg : Int32} {T L ay gs so E B pv vl el : Nat → Int32} {m : Nat → List Nat} {n q ng : Nat} {A : Nat → List Nat} {Z : Nat → Nat} {hy : Nat → Bool}
theorem xp_define {post : Int32 → SX → Prop} (hW : iv_W n A Z q ng hy m) (hg : sg_X (tm_sg n A Z) ay gs so) (hM : cm_M 49 86 T L m)
    (hS : (∀ e, ¬ eq_Q (tm_sg n A Z) (m 0) e) → post (-1) (xn, xq, xa, xg, T, upd L 0 0, ay, gs, so, E, B, pv, vl, el))
    (hF : ∀ e, eq_Q (tm_sg n A Z) (m 0) e → ¬ eq_F (iv_R m) (m 0) e → post (-2) (xn, xq, xa, xg, T, upd L 0 0, ay, gs, so, E, B, pv, vl, el))
    (hD : ∀ e k, eq_Q (tm_sg n A Z) (m 0) e → eq_F (iv_R m) (m 0) e → tm_kd (tm_at (m 0) 1) = some k → iv_R m (4 * (tm_at (m 0) 0 - 70) + 2 * k) ≠ [] → post (-3) (xn, xq, xa, xg, T, upd L 0 0, ay, gs, so, E, B, pv, vl, el))
    (hO : ∀ e k T' L' m', eq_Q (tm_sg n A Z) (m 0) e → eq_F (iv_R m) (m 0) e → tm_kd (tm_at (m 0) 1) = some k → iv_R m (4 * (tm_at (m 0) 0 - 70) + 2 * k) = [] → cm_M 49 86 T' L' m' → m' 0 = [] → m' (17 + (4 * (tm_at (m 0) 0 - 70) + 2 * k)) = (m 0).take e → m' (17 + (4 * (tm_at (m 0) 0 - 70) + 2 * k + 1)) = (m 0).drop (e + 1) →
      (∀ s, s ≠ 0 → s ≠ 17 + (4 * (tm_at (m 0) 0 - 70) + 2 * k) → s ≠ 17 + (4 * (tm_at (m 0) 0 - 70) + 2 * k + 1) → m' s = m s) → post 0 (xn, xq, xa, xg, T', L', ay, gs, so, E, B, pv, vl, el)) : wpX_defineRule post (xn, xq, xa, xg, T, L, ay, gs, so, E, B, pv, vl, el) := by
  unfold wpX_defineRule
  dsimp only
  have h48 := hW.2.2.2.1
  refine xp_feq hW.1 hg hM h48 (fun e hQ => ?_) (fun hno => ?_)
  · have he := hQ.1
    refine xp_judgeR hM he (fun hnF => ?_) (fun k hFF hk hne => ?_) (fun k hFF hk hnil => ?_)
    · exact br_f (by decide) (nm_e (hF e hQ hnF))
    · exact br_f (by decide) (nm_e (hD e k hQ hFF hk hne))
    · refine br_t rfl ?_
      have hfn : tm_fn (tm_at (m 0) 0) := hFF.1.1
      have hk2 : k < 2 := by
        have := tm_kd_c hk
        omega
      have hnil2 := (hW.2.2.2.2.2.1.2.1 (tm_at (m 0) 0 - 70) k (by omega) hk2).2 hnil
      refine xp_bslot hM hfn hk ?_
      refine xp_copySpan (s := 0) (start := 0) hM (by omega) (by omega) (by omega) (by omega) (Nat.zero_le _) (fun T1 L1 hM1 => ?_)
      have ht1 : m (17 + (4 * (tm_at (m 0) 0 - 70) + 2 * k)) = [] := hnil
      have ht2 : m (17 + (4 * (tm_at (m 0) 0 - 70) + 2 * k + 1)) = [] := hnil2
      rw [ht1, List.nil_append, List.drop_zero, Nat.sub_zero, cm_tl (K := 49) (by rw [List.length_take]; omega)] at hM1
      have hl1 := cm_len hM1 (s := 0) (by omega)
      rw [cm_set_n (by omega)] at hl1
      dsimp only
      rw [hl1, show nI (17 + (4 * (tm_at (m 0) 0 - 70) + 2 * k)) + 1 = nI (17 + (4 * (tm_at (m 0) 0 - 70) + 2 * k + 1)) from by rw [nI_1, Nat.add_assoc], nI_1 e]
      refine xp_copySpan (s := 0) hM1 (by omega) (by omega) (by omega) (by rw [cm_set_n (by omega)]; exact Nat.le_refl _) (by omega) (fun T2 L2 hM2 => ?_)
      rw [cm_set_n (m := m) (s := 17 + (4 * (tm_at (m 0) 0 - 70) + 2 * k)) (j := 17 + (4 * (tm_at (m 0) 0 - 70) + 2 * k + 1)) (by omega), cm_set_n (m := m) (s := 17 + (4 * (tm_at (m 0) 0 - 70) + 2 * k)) (j := 0) (by omega), ht2, List.nil_append, cm_tl (K := (m 0).length - (e + 1)) (by rw [List.length_drop]; exact Nat.le_refl _), cm_tl (K := 49) (by rw [List.length_drop]; omega)] at hM2
      have hM3 := cm_nil hM2 (s := 0) (by omega)
      refine nm_e (hO e k T2 _ _ hQ hFF hk hnil hM3 cm_set_s ?_ ?_ ?_)
      · rw [cm_set_n (by omega), cm_set_n (by omega), cm_set_s]
      · rw [cm_set_n (by omega), cm_set_s]
      · intro s s0 s1 s2
        rw [cm_set_n s0, cm_set_n s2, cm_set_n s1]
  · unfold wpX_judgeRule
    dsimp only
    exact br_f (by decide) (br_f (by decide) (nm_e (hS hno)))
theorem xp_conj {post : Int32 → SX → Prop} (hW : iv_W n A Z q ng hy m) (hg : sg_X (tm_sg n A Z) ay gs so) (hM : cm_M 49 86 T L m)
    (hS : (∀ e, ¬ eq_Q (tm_sg n A Z) (m 0) e) → post (-1) (xn, nI q, xa, xg, T, upd L 0 0, ay, gs, so, E, B, pv, vl, el))
    (hF : ∀ e, eq_Q (tm_sg n A Z) (m 0) e → ¬ tm_FC (iv_R m) (m 0) → post (-2) (xn, nI q, xa, xg, T, upd L 0 0, ay, gs, so, E, B, pv, vl, el))
    (hU : ∀ e, eq_Q (tm_sg n A Z) (m 0) e → tm_FC (iv_R m) (m 0) → q = 8 → post (-4) (xn, nI q, xa, xg, T, upd L 0 0, ay, gs, so, E, B, pv, vl, el))
    (hO : ∀ e T' L' m', eq_Q (tm_sg n A Z) (m 0) e → tm_FC (iv_R m) (m 0) → q < 8 → cm_M 49 86 T' L' m' → m' 0 = [] → m' (1 + 2 * q) = (m 0).take e → m' (1 + 2 * q + 1) = (m 0).drop (e + 1) → m' 49 = (m 0).take e → m' 50 = (m 0).drop (e + 1) → m' 51 = [] → m' 52 = [] →
      (∀ s, s ≠ 0 → s ≠ 1 + 2 * q → s ≠ 1 + 2 * q + 1 → s ≠ 49 → s ≠ 50 → s ≠ 51 → s ≠ 52 → m' s = m s) → post (nI q) (xn, nI (q + 1), nI q, 1, T', L', ay, gs, so, E, B, pv, vl, el)) : wpX_conjecture post (xn, nI q, xa, xg, T, L, ay, gs, so, E, B, pv, vl, el) := by
  unfold wpX_conjecture
  dsimp only
  have h48 := hW.2.2.2.1
  refine xp_feq hW.1 hg hM h48 (fun e hQ => ?_) (fun hno => ?_)
  · have he := hQ.1
    refine xp_judgeC hW.2.1 hM he (fun hnF => ?_) (fun hFC hq8 => ?_) (fun hFC hq8 => ?_)
    · exact br_f (by decide) (nm_e (hF e hQ hnF))
    · exact br_f (by decide) (nm_e (hU e hQ hFC hq8))
    · refine br_t rfl ?_
      unfold wpX_enterFormula
      dsimp only
      rw [show (1 : Int32) + 2 * nI q = nI (1 + 2 * q) from by rw [show (2 : Int32) * nI q = nI (2 * q) from pk_mul 2 q]; exact nI_add 1 _]
      refine nm_e ?_
      have ht1 : m (1 + 2 * q) = [] := hW.2.2.2.2.1.2 (2 * q) (Nat.le_refl _) (by omega)
      have ht2 : m (1 + 2 * q + 1) = [] := hW.2.2.2.2.1.2 (2 * q + 1) (by omega) (by omega)
      refine xp_copySpan (s := 0) (start := 0) hM (by omega) (by omega) (by omega) (by omega) (Nat.zero_le _) (fun T1 L1 hM1 => ?_)
      rw [ht1, List.nil_append, List.drop_zero, Nat.sub_zero, cm_tl (K := 49) (by rw [List.length_take]; omega)] at hM1
      have hl1 := cm_len hM1 (s := 0) (by omega)
      rw [cm_set_n (by omega)] at hl1
      dsimp only
      rw [hl1, nI_1 (1 + 2 * q), nI_1 e]
      refine xp_copySpan (s := 0) hM1 (by omega) (by omega) (by omega) (by rw [cm_set_n (by omega)]; exact Nat.le_refl _) (by omega) (fun T2 L2 hM2 => ?_)
      rw [cm_set_n (m := m) (s := 1 + 2 * q) (j := 1 + 2 * q + 1) (by omega), cm_set_n (m := m) (s := 1 + 2 * q) (j := 0) (by omega), ht2, List.nil_append, cm_tl (K := (m 0).length - (e + 1)) (by rw [List.length_drop]; exact Nat.le_refl _), cm_tl (K := 49) (by rw [List.length_drop]; omega)] at hM2
      refine xp_copyText (t := 49) hM2 (by omega) (by omega) (by omega) (fun T3 L3 hM3 => ?_)
      rw [cm_set_n (m := cm_set m (1 + 2 * q) ((m 0).take e)) (s := 1 + 2 * q + 1) (j := 1 + 2 * q) (by omega), cm_set_s] at hM3
      refine xp_copyText (t := 50) hM3 (by omega) (by omega) (by omega) (fun T4 L4 hM4 => ?_)
      rw [cm_set_n (s := 49) (j := 1 + 2 * q + 1) (by omega), cm_set_s] at hM4
      have hM5 := cm_nil (cm_nil (cm_nil hM4 (s := 51) (by omega)) (s := 52) (by omega)) (s := 0) (by omega)
      refine nm_e (nm_e (nm_r (nI_1 q) (nm_e (hO e T4 _ _ hQ hFC hq8 hM5 cm_set_s ?_ ?_ ?_ ?_ ?_ ?_ ?_))))
      · rw [cm_set_n (by omega), cm_set_n (by omega), cm_set_n (by omega), cm_set_n (by omega), cm_set_n (by omega), cm_set_n (by omega), cm_set_s]
      · rw [cm_set_n (by omega), cm_set_n (by omega), cm_set_n (by omega), cm_set_n (by omega), cm_set_n (by omega), cm_set_s]
      · rw [cm_set_n (by omega), cm_set_n (by omega), cm_set_n (by omega), cm_set_n (by omega), cm_set_s]
      · rw [cm_set_n (by omega), cm_set_n (by omega), cm_set_n (by omega), cm_set_s]
      · rw [cm_set_n (by omega), cm_set_n (by omega), cm_set_s]
      · rw [cm_set_n (by omega), cm_set_s]
      · intro s s0 s1 s2 s3 s4 s5 s6
        rw [cm_set_n s0, cm_set_n s6, cm_set_n s5, cm_set_n s4, cm_set_n s3, cm_set_n s2, cm_set_n s1]
  · unfold wpX_judgeConjecture
    dsimp only
    exact br_f (by decide) (br_f (by decide) (nm_e (hS hno)))
theorem xp_normN {post : Int32 → SX → Prop} (hS : tm_SG n A Z) (hR : tm_RU (tm_sg n A Z) (iv_R m)) (hg : sg_X (tm_sg n A Z) ay gs so) (hM : cm_M 49 86 T L m) {s : Nat} (hs : s < 83) (hs2 : 81 ≤ s) {S : List Nat} (hw : (m s).length ≤ 48 → tm_P (tm_sg n A Z) S (m s) ∧ tm_FC (iv_R m) (m s))
    (h1 : ∀ w', tm_N (tm_sg n A Z) (iv_R m) (m s) = some w' → ∀ T' L' E' B' m', cm_M 49 86 T' L' m' → m' s = w' → (∀ u, u ≠ s → u ≠ 83 → m' u = m u) → post 1 (xn, xq, xa, xg, T', L', ay, gs, so, E', B', pv, vl, el))
    (h0 : tm_N (tm_sg n A Z) (iv_R m) (m s) = none → ∀ T' L' E' B' m', cm_M 49 86 T' L' m' → (∀ u, u ≠ s → u ≠ 83 → m' u = m u) → post 0 (xn, xq, xa, xg, T', L', ay, gs, so, E', B', pv, vl, el)) : wpX_normalize post (xn, xq, xa, xg, T, L, ay, gs, so, E, B, pv, vl, el) (nI s) := by
  refine xp_norm (tm_sg_GS hS) hR hg (tm_ar_lt hS) hM hs hs2 hw (fun w' hl e => h1 w' ?_) (fun e => h0 ?_)
  · unfold tm_N
    rw [if_pos hl]
    exact e
  · unfold tm_N
    by_cases hl : (m s).length ≤ 48
    · rw [if_pos hl]
      exact e hl
    · rw [if_neg hl]
theorem xp_settle {post : Int32 → SX → Prop} {k : Nat} (hk : k < 8) (hS : tm_SG n A Z) (hR : tm_RU (tm_sg n A Z) (iv_R m)) (hg : sg_X (tm_sg n A Z) ay gs so) (hM : cm_M 49 86 T L m) (hg0 : 1 ≤ ng) (hg8 : ng ≤ 8) {S1 S2 : List Nat} (hw1 : (m 81).length ≤ 48 → tm_P (tm_sg n A Z) S1 (m 81) ∧ tm_FC (iv_R m) (m 81)) (hw2 : (m 82).length ≤ 48 → tm_P (tm_sg n A Z) S2 (m 82) ∧ tm_FC (iv_R m) (m 82))
    (hL : tm_N (tm_sg n A Z) (iv_R m) (m 81) = none ∨ tm_N (tm_sg n A Z) (iv_R m) (m 82) = none → ∀ T' L' E' B' m', cm_M 49 86 T' L' m' → (∀ s, s < 81 → m' s = m s) → post (-7) (xn, xq, nI k, nI ng, T', L', ay, gs, so, E', B', pv, vl, el))
    (hO : ∀ u v T' L' E' B' m', tm_N (tm_sg n A Z) (iv_R m) (m 81) = some u → tm_N (tm_sg n A Z) (iv_R m) (m 82) = some v → cm_M 49 86 T' L' m' → m' (49 + 4 * (ng - 1)) = u → m' (49 + 4 * (ng - 1) + 1) = v → (∀ s, s < 81 → s ≠ 49 + 4 * (ng - 1) → s ≠ 49 + 4 * (ng - 1) + 1 → m' s = m s) →
      (u ≠ v → post (nI ng) (xn, xq, nI k, nI ng, T', L', ay, gs, so, E', B', pv, vl, el)) ∧ (u = v → ng = 1 → post 0 (xn, xq, -1, 0, T', L', ay, gs, so, E', B', upd pv k 1, vl, el)) ∧ (u = v → 1 < ng → post (nI (ng - 1)) (xn, xq, nI k, nI (ng - 1), T', L', ay, gs, so, E', B', pv, vl, el))) : wpX_settleTopGoal post (xn, xq, nI k, nI ng, T, L, ay, gs, so, E, B, pv, vl, el) := by
  unfold wpX_settleTopGoal
  dsimp only
  refine xp_normN (s := 81) hS hR hg hM (by omega) (by omega) hw1 (fun u hu T1 L1 E1 B1 m1 hM1 e1 f1 => ?_) (fun hu T1 L1 E1 B1 m1 hM1 f1 => ?_)
  · refine br_f (by decide) ?_
    have hR1 : ∀ i, i < 32 → iv_R m1 i = iv_R m i := fun i hi => f1 _ (by omega) (by omega)
    have e82 : m1 82 = m 82 := f1 82 (by omega) (by omega)
    refine xp_normN (s := 82) (S := S2) hS (iv_RU_mono (fun _ _ h => h) hR1 hR) hg hM1 (by omega) (by omega) ?_ ?_ ?_
    · rw [e82]
      exact fun hl => ⟨(hw2 hl).1, iv_FC_ext (iv_eqne hR1) (hw2 hl).2⟩
    · rw [tm_N_ext hR1, e82]
      intro v hv T2 L2 E2 B2 m2 hM2 e2 f2
      refine br_f (by decide) ?_
      refine xp_top hg0 hg8 ?_
      refine xp_copyText (s := 81) hM2 (by omega) (by omega) (by omega) (fun T3 L3 hM3 => ?_)
      rw [f2 81 (by omega) (by omega), e1] at hM3
      rw [nI_1]
      refine xp_copyText (s := 82) hM3 (by omega) (by omega) (by omega) (fun T4 L4 hM4 => ?_)
      rw [cm_set_n (j := 82) (by omega), e2] at hM4
      have q81 : cm_set (cm_set m2 (49 + 4 * (ng - 1)) u) (49 + 4 * (ng - 1) + 1) v 81 = u := by
        rw [cm_set_n (by omega), cm_set_n (by omega), f2 81 (by omega) (by omega), e1]
      have q82 : cm_set (cm_set m2 (49 + 4 * (ng - 1)) u) (49 + 4 * (ng - 1) + 1) v 82 = v := by
        rw [cm_set_n (by omega), cm_set_n (by omega), e2]
      obtain ⟨o1, o2, o3⟩ := hO u v T4 L4 E2 B2 _ hu hv hM4 (by rw [cm_set_n (by omega), cm_set_s]) cm_set_s (fun s s1 s2 s3 => by rw [cm_set_n s3, cm_set_n s2, f2 s (by omega) (by omega), f1 s (by omega) (by omega)])
      refine xp_sameT (a := 81) (b := 82) hM4 (by omega) (by omega) ?_ ?_
      · rw [q81, q82]
        intro e
        refine br_f (by decide) ?_
        unfold wpX_closeTopGoal
        dsimp only
        rw [xi_m1 hg0]
        refine nm_e (pk_eq (ng - 1) 0 (fun z => ?_) (fun z => ?_))
        · rw [nI_clamp (n := k) (by omega), z, show vp_nar .boolean 1 = 1 from by decide]
          exact ⟨vp_in_nI hk (by omega), nm_e (o2 e (by omega))⟩
        · exact o3 e (by omega)
      · rw [q81, q82]
        intro e
        exact br_t rfl (o1 e)
    · rw [tm_N_ext hR1, e82]
      intro hv T2 L2 E2 B2 m2 hM2 f2
      exact br_t rfl (hL (Or.inr hv) T2 L2 E2 B2 m2 hM2 (fun s hs => by rw [f2 s (by omega) (by omega), f1 s (by omega) (by omega)]))
  · exact br_t rfl (hL (Or.inl hu) T1 L1 E1 B1 m1 hM1 (fun s hs => f1 s (by omega) (by omega)))
theorem xp_replS {post : Int32 → SX → Prop} (hS : tm_SG n A Z) (hg : sg_X (tm_sg n A Z) ay gs so) (hM : cm_M 49 86 T L m) (hg0 : 1 ≤ ng) (hg8 : ng ≤ 8) {f p : Nat} {pat : Bool} {px : Int32} (hf : f < 86) (hp : p < 86) (f1 : f ≠ 81) (f2 : f ≠ 82) (p1 : p ≠ 81) (p2 : p ≠ 82) (hpx : (pat = true ∧ ¬ px = 0) ∨ (pat = false ∧ px = 0))
    (h : ∀ T' L' E' B' m', cm_M 49 86 T' L' m' → m' 81 = (tm_R (tm_sg n A Z) pat (m (49 + 4 * (ng - 1))) (m f) (m p) 0).2.take 49 → m' 82 = (tm_R (tm_sg n A Z) pat (m (49 + 4 * (ng - 1) + 1)) (m f) (m p) 0).2.take 49 → (∀ s, s ≠ 81 → s ≠ 82 → m' s = m s) →
      post (nI ((tm_R (tm_sg n A Z) pat (m (49 + 4 * (ng - 1))) (m f) (m p) 0).1 + (tm_R (tm_sg n A Z) pat (m (49 + 4 * (ng - 1) + 1)) (m f) (m p) 0).1)) (xn, xq, xa, nI ng, T', L', ay, gs, so, E', B', pv, vl, el)) : wpX_replaceInSides post (xn, xq, xa, nI ng, T, L, ay, gs, so, E, B, pv, vl, el) (nI f) (nI p) px := by
  unfold wpX_replaceInSides
  dsimp only
  refine xp_top hg0 hg8 ?_
  refine xp_repl (t := 81) hg (tm_ar_lt hS) hM (by omega) (by omega) hf hp (by omega) f1 p1 hpx (fun T1 L1 E1 B1 hM1 => ?_)
  rw [nI_1]
  refine xp_repl (t := 82) hg (tm_ar_lt hS) hM1 (by omega) (by omega) hf hp (by omega) f2 p2 hpx (fun T2 L2 E2 B2 hM2 => ?_)
  rw [cm_set_n (m := m) (s := 81) (j := 49 + 4 * (ng - 1) + 1) (by omega), cm_set_n (m := m) (s := 81) (j := f) f1, cm_set_n (m := m) (s := 81) (j := p) p1] at hM2 ⊢
  rw [nI_add]
  refine h T2 L2 E2 B2 _ hM2 ?_ cm_set_s ?_
  · rw [cm_set_n (by omega), cm_set_s]
  · intro s s1 s2
    rw [cm_set_n s2, cm_set_n s1]
theorem xp_simp {post : Int32 → SX → Prop} {k : Nat} (hk : k < 8) (hW : iv_W n A Z q ng hy m) (hg : sg_X (tm_sg n A Z) ay gs so) (hM : cm_M 49 86 T L m) (hg0 : 1 ≤ ng)
    (hL : tm_N (tm_sg n A Z) (iv_R m) (m (49 + 4 * (ng - 1))) = none ∨ tm_N (tm_sg n A Z) (iv_R m) (m (49 + 4 * (ng - 1) + 1)) = none → ∀ T' L' E' B' m', cm_M 49 86 T' L' m' → (∀ s, s < 81 → m' s = m s) → post (-7) (xn, xq, nI k, nI ng, T', L', ay, gs, so, E', B', pv, vl, el))
    (hO : ∀ u v T' L' E' B' m', tm_N (tm_sg n A Z) (iv_R m) (m (49 + 4 * (ng - 1))) = some u → tm_N (tm_sg n A Z) (iv_R m) (m (49 + 4 * (ng - 1) + 1)) = some v → cm_M 49 86 T' L' m' → m' (49 + 4 * (ng - 1)) = u → m' (49 + 4 * (ng - 1) + 1) = v → (∀ s, s < 81 → s ≠ 49 + 4 * (ng - 1) → s ≠ 49 + 4 * (ng - 1) + 1 → m' s = m s) →
      (u ≠ v → post (nI ng) (xn, xq, nI k, nI ng, T', L', ay, gs, so, E', B', pv, vl, el)) ∧ (u = v → ng = 1 → post 0 (xn, xq, -1, 0, T', L', ay, gs, so, E', B', upd pv k 1, vl, el)) ∧ (u = v → 1 < ng → post (nI (ng - 1)) (xn, xq, nI k, nI (ng - 1), T', L', ay, gs, so, E', B', pv, vl, el))) : wpX_simp post (xn, xq, nI k, nI ng, T, L, ay, gs, so, E, B, pv, vl, el) := by
  unfold wpX_simp
  dsimp only
  obtain ⟨hS, _, hg8, _, _, hWr, hWg⟩ := hW
  obtain ⟨⟨s, w1, w2, w3, w4, w5, w6⟩, _, _⟩ := hWg (ng - 1) (by omega)
  refine br_t (nI_pos' (by omega)) ?_
  refine xp_top hg0 hg8 ?_
  refine xp_copyText (t := 81) hM (by omega) (by omega) (by omega) (fun T1 L1 hM1 => ?_)
  rw [nI_1]
  refine xp_copyText (t := 82) hM1 (by omega) (by omega) (by omega) (fun T2 L2 hM2 => ?_)
  rw [cm_set_n (m := m) (j := 49 + 4 * (ng - 1) + 1) (by omega)] at hM2
  have e81 : cm_set (cm_set m 81 (m (49 + 4 * (ng - 1)))) 82 (m (49 + 4 * (ng - 1) + 1)) 81 = m (49 + 4 * (ng - 1)) := by rw [cm_set_n (by omega), cm_set_s]
  have e82 : cm_set (cm_set m 81 (m (49 + 4 * (ng - 1)))) 82 (m (49 + 4 * (ng - 1) + 1)) 82 = m (49 + 4 * (ng - 1) + 1) := cm_set_s
  have hfr : ∀ u, u < 81 → cm_set (cm_set m 81 (m (49 + 4 * (ng - 1)))) 82 (m (49 + 4 * (ng - 1) + 1)) u = m u := fun u hu => by rw [cm_set_n (by omega), cm_set_n (by omega)]
  have hR1 : ∀ i, i < 32 → iv_R (cm_set (cm_set m 81 (m (49 + 4 * (ng - 1)))) 82 (m (49 + 4 * (ng - 1) + 1))) i = iv_R m i := fun i hi => hfr _ (by omega)
  refine xp_settle (S1 := [s]) (S2 := [s]) hk hS (iv_RU_mono (fun _ _ h => h) hR1 hWr.1) hg hM2 hg0 hg8 ?_ ?_ ?_ ?_
  · rw [e81]
    exact fun _ => ⟨w1, iv_FC_ext (iv_eqne hR1) w3⟩
  · rw [e82]
    exact fun _ => ⟨w2, iv_FC_ext (iv_eqne hR1) w4⟩
  · rw [e81, e82, tm_N_ext hR1, tm_N_ext hR1]
    intro h T' L' E' B' m' hM' hf'
    exact hL h T' L' E' B' m' hM' (fun s hs => by rw [hf' s hs, hfr s hs])
  · rw [e81, e82, tm_N_ext hR1, tm_N_ext hR1]
    intro u v T' L' E' B' m' hu hv hM' h1 h2 hf'
    exact hO u v T' L' E' B' m' hu hv hM' h1 h2 (fun s hs s1 s2 => by rw [hf' s hs s1 s2, hfr s hs])
end XF
end
section
/-! 16: the class: useHyp, useLemma, generalize -/
theorem tm_R_cto {g : tm_G} {pat : Bool} {w fr to to' : List Nat} : ∀ d i, w.length - i ≤ d → (tm_R g pat w fr to i).1 = (tm_R g pat w fr to' i).1 := by
  intro d
  induction d with
  | zero =>
    intro i h
    rw [tm_R_out (by omega), tm_R_out (by omega)]
  | succ d ih =>
    intro i h
    by_cases hi : i < w.length
    · have he := tm_e_gt g hi
      cases hm : tm_mt g pat w fr i (fun _ => none) with
      | some r =>
        rw [tm_R_hit hi hm, tm_R_hit hi hm]
        dsimp only
        rw [ih (tm_e g w i) (by omega)]
      | none =>
        rw [tm_R_miss hi hm, tm_R_miss hi hm]
        dsimp only
        rw [ih (i + 1) (by omega)]
    · rw [tm_R_out (by omega), tm_R_out (by omega)]
theorem tm_head {g : tm_G} (hv : tm_V g) {s : Nat} {w : List Nat} (hP : tm_P g [s] w) (hn : ¬ (w.length = 1 ∧ tm_vn (tm_at w 0) ≠ none)) : ∃ c p, w = c :: p ∧ tm_vn c = none := by
  cases w with
  | nil => exact absurd hP (fun z => nomatch (show [s] = [] from z))
  | cons c p =>
    refine ⟨c, p, rfl, ?_⟩
    cases hc : tm_vn c with
    | none => rfl
    | some v =>
      exfalso
      apply hn
      obtain ⟨a, s2, S2, hg, hS, hP2⟩ := hP
      obtain ⟨s3, hg3⟩ := hv c v hc
      rw [hg] at hg3
      obtain ⟨rfl, _⟩ := Prod.mk.inj (Option.some.inj hg3)
      obtain ⟨_, rfl⟩ := List.cons.inj hS
      have := tm_P_len' hP2
      rw [List.append_nil, List.length_nil, tm_en_0] at this
      refine ⟨by rw [List.length_cons, ← this], ?_⟩
      show tm_vn c ≠ none
      rw [hc]
      exact Option.some_ne_none v
theorem iv_Rok {g : tm_G} {R : Nat → List Nat} {pat : Bool} {w fr to : List Nat} {s s2 : Nat} (hv : tm_V g) (hP : tm_P g [s] w) (hF : tm_FC R w) (hf : tm_P g [s2] fr) (ht : tm_P g [s2] to) (hFt : tm_FC R to) (hh : pat = false ∨ ¬ (fr.length = 1 ∧ tm_vn (tm_at fr 0) ≠ none)) : tm_P g [s] (tm_R g pat w fr to 0).2 ∧ tm_FC R (tm_R g pat w fr to 0).2 := by
  constructor
  · rcases hh with hh | hh
    · cases fr with
      | nil => exact absurd hf (fun z => nomatch (show [s2] = [] from z))
      | cons c p => exact tm_R_ty hv hf ht (Or.inl hh) w.length 0 [s] (Nat.sub_le _ _) (by rw [List.drop_zero]; exact hP)
    · obtain ⟨c, p, rfl, hc⟩ := tm_head hv hf hh
      exact tm_R_ty hv hf ht (Or.inr hc) w.length 0 [s] (Nat.sub_le _ _) (by rw [List.drop_zero]; exact hP)
  · intro c hc hcf
    rcases tm_R_mem w.length 0 (Nat.sub_le _ _) hc with h | h
    · exact hFt c h hcf
    · exact hF c h hcf
section XG
variable {xn xq xa xg : Int32} {T L ay gs so E B pv vl el : Nat → Int32} {m : Nat → List Nat} {n q ng : Nat} {A : Nat → List Nat} {Z : Nat → Nat} {hy : Nat → Bool}
theorem xp_fin {post : Int32 → SX → Prop} {k : Nat} {m0 : Nat → List Nat} {l r : List Nat} (hk : k < 8) (hS : tm_SG n A Z) (hR : tm_RU (tm_sg n A Z) (iv_R m)) (hg : sg_X (tm_sg n A Z) ay gs so) (hM : cm_M 49 86 T L m0) (hg0 : 1 ≤ ng) (hg8 : ng ≤ 8) (e1 : m0 81 = l.take 49) (e2 : m0 82 = r.take 49) (hfr : ∀ s, s ≠ 81 → s ≠ 82 → m0 s = m s) {s1 s2 : Nat} (w1 : tm_P (tm_sg n A Z) [s1] l ∧ tm_FC (iv_R m) l) (w2 : tm_P (tm_sg n A Z) [s2] r ∧ tm_FC (iv_R m) r)
    (hL : tm_N (tm_sg n A Z) (iv_R m) l = none ∨ tm_N (tm_sg n A Z) (iv_R m) r = none → ∀ T' L' E' B' m', cm_M 49 86 T' L' m' → (∀ s, s < 81 → m' s = m s) → post (-7) (xn, xq, nI k, nI ng, T', L', ay, gs, so, E', B', pv, vl, el))
    (hO : ∀ u v T' L' E' B' m', tm_N (tm_sg n A Z) (iv_R m) l = some u → tm_N (tm_sg n A Z) (iv_R m) r = some v → cm_M 49 86 T' L' m' → m' (49 + 4 * (ng - 1)) = u → m' (49 + 4 * (ng - 1) + 1) = v → (∀ s, s < 81 → s ≠ 49 + 4 * (ng - 1) → s ≠ 49 + 4 * (ng - 1) + 1 → m' s = m s) →
      (u ≠ v → post (nI ng) (xn, xq, nI k, nI ng, T', L', ay, gs, so, E', B', pv, vl, el)) ∧ (u = v → ng = 1 → post 0 (xn, xq, -1, 0, T', L', ay, gs, so, E', B', upd pv k 1, vl, el)) ∧ (u = v → 1 < ng → post (nI (ng - 1)) (xn, xq, nI k, nI (ng - 1), T', L', ay, gs, so, E', B', pv, vl, el))) : wpX_settleTopGoal post (xn, xq, nI k, nI ng, T, L, ay, gs, so, E, B, pv, vl, el) := by
  have hR1 : ∀ i, i < 32 → iv_R m0 i = iv_R m i := fun i hi => hfr _ (by omega) (by omega)
  refine xp_settle (S1 := [s1]) (S2 := [s2]) hk hS (iv_RU_mono (fun _ _ h => h) hR1 hR) hg hM hg0 hg8 ?_ ?_ ?_ ?_
  · rw [e1]
    intro hl
    rw [List.length_take] at hl
    rw [cm_tl (by omega)]
    exact ⟨w1.1, iv_FC_ext (iv_eqne hR1) w1.2⟩
  · rw [e2]
    intro hl
    rw [List.length_take] at hl
    rw [cm_tl (by omega)]
    exact ⟨w2.1, iv_FC_ext (iv_eqne hR1) w2.2⟩
  · rw [e1, e2, tm_N_ext hR1, tm_N_ext hR1, tm_N_take, tm_N_take]
    intro h T' L' E' B' m' hM' hf'
    exact hL h T' L' E' B' m' hM' (fun s hs => by rw [hf' s hs, hfr s (by omega) (by omega)])
  · rw [e1, e2, tm_N_ext hR1, tm_N_ext hR1, tm_N_take, tm_N_take]
    intro u v T' L' E' B' m' hu hv hM' h1 h2 hf'
    exact hO u v T' L' E' B' m' hu hv hM' h1 h2 (fun s hs a b => by rw [hf' s hs a b, hfr s (by omega) (by omega)])
theorem xp_useHyp {post : Int32 → SX → Prop} {k f p : Nat} {x1 : Int32} (hk : k < 8) (hW : iv_W n A Z q ng hy m) (hg : sg_X (tm_sg n A Z) ay gs so) (hM : cm_M 49 86 T L m) (hg0 : 1 ≤ ng) (hfp : (f = 49 + 4 * (ng - 1) + 2 ∧ p = 49 + 4 * (ng - 1) + 3 ∧ x1 = 0) ∨ (f = 49 + 4 * (ng - 1) + 3 ∧ p = 49 + 4 * (ng - 1) + 2 ∧ x1 = 1))
    (hH : hy (ng - 1) = false → post (-5) (xn, xq, nI k, nI ng, T, L, ay, gs, so, E, B, pv, vl, el))
    (hN : hy (ng - 1) = true → (tm_R (tm_sg n A Z) false (m (49 + 4 * (ng - 1))) (m f) (m p) 0).1 + (tm_R (tm_sg n A Z) false (m (49 + 4 * (ng - 1) + 1)) (m f) (m p) 0).1 = 0 → ∀ T' L' E' B' m', cm_M 49 86 T' L' m' → (∀ s, s < 81 → m' s = m s) → post (-8) (xn, xq, nI k, nI ng, T', L', ay, gs, so, E', B', pv, vl, el))
    (hL : hy (ng - 1) = true → (tm_R (tm_sg n A Z) false (m (49 + 4 * (ng - 1))) (m f) (m p) 0).1 + (tm_R (tm_sg n A Z) false (m (49 + 4 * (ng - 1) + 1)) (m f) (m p) 0).1 ≠ 0 → tm_N (tm_sg n A Z) (iv_R m) (tm_R (tm_sg n A Z) false (m (49 + 4 * (ng - 1))) (m f) (m p) 0).2 = none ∨ tm_N (tm_sg n A Z) (iv_R m) (tm_R (tm_sg n A Z) false (m (49 + 4 * (ng - 1) + 1)) (m f) (m p) 0).2 = none → ∀ T' L' E' B' m', cm_M 49 86 T' L' m' → (∀ s, s < 81 → m' s = m s) → post (-7) (xn, xq, nI k, nI ng, T', L', ay, gs, so, E', B', pv, vl, el))
    (hO : hy (ng - 1) = true → (tm_R (tm_sg n A Z) false (m (49 + 4 * (ng - 1))) (m f) (m p) 0).1 + (tm_R (tm_sg n A Z) false (m (49 + 4 * (ng - 1) + 1)) (m f) (m p) 0).1 ≠ 0 → ∀ u v T' L' E' B' m', tm_N (tm_sg n A Z) (iv_R m) (tm_R (tm_sg n A Z) false (m (49 + 4 * (ng - 1))) (m f) (m p) 0).2 = some u → tm_N (tm_sg n A Z) (iv_R m) (tm_R (tm_sg n A Z) false (m (49 + 4 * (ng - 1) + 1)) (m f) (m p) 0).2 = some v → cm_M 49 86 T' L' m' → m' (49 + 4 * (ng - 1)) = u → m' (49 + 4 * (ng - 1) + 1) = v → (∀ s, s < 81 → s ≠ 49 + 4 * (ng - 1) → s ≠ 49 + 4 * (ng - 1) + 1 → m' s = m s) →
      (u ≠ v → post (nI ng) (xn, xq, nI k, nI ng, T', L', ay, gs, so, E', B', pv, vl, el)) ∧ (u = v → ng = 1 → post 0 (xn, xq, -1, 0, T', L', ay, gs, so, E', B', upd pv k 1, vl, el)) ∧ (u = v → 1 < ng → post (nI (ng - 1)) (xn, xq, nI k, nI (ng - 1), T', L', ay, gs, so, E', B', pv, vl, el))) : wX_useHyp_22 post x1 xn xq (nI k) (nI ng) T L ay gs so E B pv vl el := by
  unfold wX_useHyp_22
  obtain ⟨hS, _, hg8, _, _, hWr, hWg⟩ := hW
  obtain ⟨⟨s, w1, w2, w3, w4, w5, w6⟩, hyt, hyf⟩ := hWg (ng - 1) (by omega)
  refine xp_top hg0 hg8 ?_
  rw [show nI (49 + 4 * (ng - 1)) + 2 = nI (49 + 4 * (ng - 1) + 2) from nI_add _ 2]
  have hs2 : 49 + 4 * (ng - 1) + 2 < 86 := by omega
  have hl2 := cm_le hM hs2
  refine nm_e ⟨vp_in_nI hs2 (by omega), ?_⟩
  rw [nI_clamp (n := 49 + 4 * (ng - 1) + 2) (by omega), cm_len hM hs2]
  cases hyv : hy (ng - 1) with
  | false =>
    rw [(hyf hyv).1]
    exact br_t rfl (hH hyv)
  | true =>
    obtain ⟨sh, v1, v2, v3, v4, v5, v6⟩ := hyt hyv
    have hpos := tm_P_ne v1
    refine br_f (nI_ne0 hpos (by omega)) ?_
    have ef : nI (49 + 4 * (ng - 1) + 2) + x1 = nI f := by
      rcases hfp with ⟨rfl, rfl, rfl⟩ | ⟨rfl, rfl, rfl⟩
      · exact nI_add _ 0
      · exact nI_1 _
    have ep : nI (49 + 4 * (ng - 1) + 2) + 1 - x1 = nI p := by
      rw [nI_1]
      rcases hfp with ⟨rfl, rfl, rfl⟩ | ⟨rfl, rfl, rfl⟩
      · exact pk_sub (b := 0) (by omega)
      · exact pk_sub (b := 1) (by omega)
    rw [ef, ep]
    have hPf : ∃ sf, tm_P (tm_sg n A Z) [sf] (m f) ∧ tm_P (tm_sg n A Z) [sf] (m p) ∧ tm_FC (iv_R m) (m p) := by
      rcases hfp with ⟨rfl, rfl, _⟩ | ⟨rfl, rfl, _⟩
      · exact ⟨sh, v1, v2, v4⟩
      · exact ⟨sh, v2, v1, v3⟩
    obtain ⟨sf, q1, q2, q3⟩ := hPf
    have hV := (tm_sg_GS hS).1
    refine xp_replS (pat := false) hS hg hM hg0 hg8 (by omega) (by omega) (by omega) (by omega) (by omega) (by omega) (Or.inr ⟨rfl, rfl⟩) (fun T1 L1 E1 B1 m1 hM1 a1 a2 a3 => ?_)
    have c1 := tm_R_cnt (g := tm_sg n A Z) (pat := false) (w := m (49 + 4 * (ng - 1))) (fr := m f) (to := m p) _ 0 (Nat.le_refl _)
    have c2 := tm_R_cnt (g := tm_sg n A Z) (pat := false) (w := m (49 + 4 * (ng - 1) + 1)) (fr := m f) (to := m p) _ 0 (Nat.le_refl _)
    refine pk_eq ((tm_R (tm_sg n A Z) false (m (49 + 4 * (ng - 1))) (m f) (m p) 0).1 + (tm_R (tm_sg n A Z) false (m (49 + 4 * (ng - 1) + 1)) (m f) (m p) 0).1) 0 (fun z => hN hyv z T1 L1 E1 B1 m1 hM1 (fun s hs => a3 s (by omega) (by omega))) (fun z => ?_)
    exact xp_fin hk hS hWr.1 hg hM1 hg0 hg8 a1 a2 a3 (iv_Rok hV w1 w3 q1 q2 q3 (Or.inl rfl)) (iv_Rok hV w2 w4 q1 q2 q3 (Or.inl rfl)) (hL hyv z) (hO hyv z)
theorem xp_useLem {post : Int32 → SX → Prop} {k kk f p : Nat} {x2 : Int32} (hk : k < 8) (hW : iv_W n A Z q ng hy m) (hg : sg_X (tm_sg n A Z) ay gs so) (hM : cm_M 49 86 T L m) (hg0 : 1 ≤ ng) (hkk : kk < q) (hfp : (f = 1 + 2 * kk ∧ p = 1 + 2 * kk + 1 ∧ x2 = 0) ∨ (f = 1 + 2 * kk + 1 ∧ p = 1 + 2 * kk ∧ x2 = 1))
    (hF : ((m f).length = 1 ∧ tm_vn (tm_at (m f) 0) ≠ none) ∨ ¬ (∀ v, v < 16 → tm_vc v ∈ m p → tm_vc v ∈ m f) → post (-2) (xn, xq, nI k, nI ng, T, L, ay, gs, so, E, B, pv, vl, el))
    (hN : ¬ ((m f).length = 1 ∧ tm_vn (tm_at (m f) 0) ≠ none) → (∀ v, v < 16 → tm_vc v ∈ m p → tm_vc v ∈ m f) → (tm_R (tm_sg n A Z) true (m (49 + 4 * (ng - 1))) (m f) (m p) 0).1 + (tm_R (tm_sg n A Z) true (m (49 + 4 * (ng - 1) + 1)) (m f) (m p) 0).1 = 0 → ∀ T' L' E' B' m', cm_M 49 86 T' L' m' → (∀ s, s < 81 → m' s = m s) → post (-8) (xn, xq, nI k, nI ng, T', L', ay, gs, so, E', B', pv, vl, el))
    (hL : ¬ ((m f).length = 1 ∧ tm_vn (tm_at (m f) 0) ≠ none) → (∀ v, v < 16 → tm_vc v ∈ m p → tm_vc v ∈ m f) → (tm_R (tm_sg n A Z) true (m (49 + 4 * (ng - 1))) (m f) (m p) 0).1 + (tm_R (tm_sg n A Z) true (m (49 + 4 * (ng - 1) + 1)) (m f) (m p) 0).1 ≠ 0 → tm_N (tm_sg n A Z) (iv_R m) (tm_R (tm_sg n A Z) true (m (49 + 4 * (ng - 1))) (m f) (m p) 0).2 = none ∨ tm_N (tm_sg n A Z) (iv_R m) (tm_R (tm_sg n A Z) true (m (49 + 4 * (ng - 1) + 1)) (m f) (m p) 0).2 = none → ∀ T' L' E' B' m', cm_M 49 86 T' L' m' → (∀ s, s < 81 → m' s = m s) → post (-7) (xn, xq, nI k, nI ng, T', L', ay, gs, so, E', B', pv, vl, el))
    (hO : ¬ ((m f).length = 1 ∧ tm_vn (tm_at (m f) 0) ≠ none) → (∀ v, v < 16 → tm_vc v ∈ m p → tm_vc v ∈ m f) → (tm_R (tm_sg n A Z) true (m (49 + 4 * (ng - 1))) (m f) (m p) 0).1 + (tm_R (tm_sg n A Z) true (m (49 + 4 * (ng - 1) + 1)) (m f) (m p) 0).1 ≠ 0 → ∀ u v T' L' E' B' m', tm_N (tm_sg n A Z) (iv_R m) (tm_R (tm_sg n A Z) true (m (49 + 4 * (ng - 1))) (m f) (m p) 0).2 = some u → tm_N (tm_sg n A Z) (iv_R m) (tm_R (tm_sg n A Z) true (m (49 + 4 * (ng - 1) + 1)) (m f) (m p) 0).2 = some v → cm_M 49 86 T' L' m' → m' (49 + 4 * (ng - 1)) = u → m' (49 + 4 * (ng - 1) + 1) = v → (∀ s, s < 81 → s ≠ 49 + 4 * (ng - 1) → s ≠ 49 + 4 * (ng - 1) + 1 → m' s = m s) →
      (u ≠ v → post (nI ng) (xn, xq, nI k, nI ng, T', L', ay, gs, so, E', B', pv, vl, el)) ∧ (u = v → ng = 1 → post 0 (xn, xq, -1, 0, T', L', ay, gs, so, E', B', upd pv k 1, vl, el)) ∧ (u = v → 1 < ng → post (nI (ng - 1)) (xn, xq, nI k, nI (ng - 1), T', L', ay, gs, so, E', B', pv, vl, el))) : wX_useLemma_44 post (nI kk) x2 xn xq (nI k) (nI ng) T L ay gs so E B pv vl el := by
  unfold wX_useLemma_44
  obtain ⟨hS, hq8, hg8, _, hWf, hWr, hWg⟩ := hW
  obtain ⟨⟨s, w1, w2, w3, w4, w5, w6⟩, hyt, hyf⟩ := hWg (ng - 1) (by omega)
  obtain ⟨sh, v1, v2, v3, v4, v5, v6⟩ := hWf.1 kk hkk
  have hV := (tm_sg_GS hS).1
  rw [show (1 : Int32) + 2 * nI kk = nI (1 + 2 * kk) from by rw [show (2 : Int32) * nI kk = nI (2 * kk) from pk_mul 2 kk]; exact nI_add 1 _]
  have ef : nI (1 + 2 * kk) + x2 = nI f := by
    rcases hfp with ⟨rfl, rfl, rfl⟩ | ⟨rfl, rfl, rfl⟩
    · exact nI_add _ 0
    · exact nI_1 _
  have ep : nI (1 + 2 * kk) + 1 - x2 = nI p := by
    rw [nI_1]
    rcases hfp with ⟨rfl, rfl, rfl⟩ | ⟨rfl, rfl, rfl⟩
    · exact pk_sub (b := 0) (by omega)
    · exact pk_sub (b := 1) (by omega)
  have hPf : ∃ sf, tm_P (tm_sg n A Z) [sf] (m f) ∧ tm_P (tm_sg n A Z) [sf] (m p) ∧ tm_FC (iv_R m) (m p) := by
    rcases hfp with ⟨rfl, rfl, _⟩ | ⟨rfl, rfl, _⟩
    · exact ⟨sh, v1, v2, v4⟩
    · exact ⟨sh, v2, v1, v3⟩
  obtain ⟨sf, q1, q2, q3⟩ := hPf
  refine nm_e (nm_r ef (nm_r ep ?_))
  refine xp_varsOf hM (by omega) (fun k1 s1 => ?_)
  refine xp_varsOf hM (by omega) (fun k2 s2 => ?_)
  have hd := vb_diff s1 s2
  refine nm_e ?_
  refine xp_single hM (by omega) (fun z1 z2 => br_f (by decide) (hF (Or.inl ⟨z1, z2⟩))) (fun hns => br_t rfl ?_)
  by_cases hsub : ∀ v, v < 16 → tm_vc v ∈ m p → tm_vc v ∈ m f
  · refine br_t (hd.mpr hsub) ?_
    refine xp_replS (pat := true) hS hg hM hg0 hg8 (by omega) (by omega) (by omega) (by omega) (by omega) (by omega) (Or.inl ⟨rfl, by decide⟩) (fun T1 L1 E1 B1 m1 hM1 a1 a2 a3 => ?_)
    have c1 := tm_R_cnt (g := tm_sg n A Z) (pat := true) (w := m (49 + 4 * (ng - 1))) (fr := m f) (to := m p) _ 0 (Nat.le_refl _)
    have c2 := tm_R_cnt (g := tm_sg n A Z) (pat := true) (w := m (49 + 4 * (ng - 1) + 1)) (fr := m f) (to := m p) _ 0 (Nat.le_refl _)
    refine pk_eq ((tm_R (tm_sg n A Z) true (m (49 + 4 * (ng - 1))) (m f) (m p) 0).1 + (tm_R (tm_sg n A Z) true (m (49 + 4 * (ng - 1) + 1)) (m f) (m p) 0).1) 0 (fun z => hN hns hsub z T1 L1 E1 B1 m1 hM1 (fun s hs => a3 s (by omega) (by omega))) (fun z => ?_)
    exact xp_fin hk hS hWr.1 hg hM1 hg0 hg8 a1 a2 a3 (iv_Rok hV w1 w3 q1 q2 q3 (Or.inr hns)) (iv_Rok hV w2 w4 q1 q2 q3 (Or.inr hns)) (hL hns hsub z) (hO hns hsub z)
  · exact br_f (fun z => hsub (hd.mp z)) (hF (Or.inr hsub))
end XG
end
section
/-! 17: the class: generalize, induct, evaluate -/
def fr_p (m : Nat → List Nat) (s0 v : Nat) : Prop := tm_vc v ∈ m s0 ∨ tm_vc v ∈ m (s0 + 1) ∨ tm_vc v ∈ m (s0 + 2) ∨ tm_vc v ∈ m (s0 + 3)
def tm_to (v h : Nat) : List Nat := if v < 8 then [83, tm_vc v] else [67, tm_vc h, tm_vc v]
def tm_ba (v : Nat) : List Nat := if v < 8 then [90] else [78]
theorem tm_vc_lt {v : Nat} (h : v < 16) : tm_vc v < 256 := by
  unfold tm_vc
  split <;> omega
def ev_X (val : Nat → Nat) (e2 : Nat → Nat → Nat) (vl el : Nat → Int32) : Prop := ∀ v, v < 16 → vl v = nI (val v) ∧ val v ≤ 7 ∧ (8 ≤ v → val v ≤ 4 ∧ ∀ i, i < val v → e2 v i ≤ 3 ∧ (el v >>> (nI (4 * i) &&& 31)) &&& 15 = nI (e2 v i))
section XH
variable {xn xq xa xg : Int32} {T L ay gs so E B pv vl el : Nat → Int32} {m : Nat → List Nat} {n q ng : Nat} {A : Nat → List Nat} {Z : Nat → Nat} {hy : Nat → Bool}
theorem xp_gen87 {post : Int32 → SX → Prop} {x2 : Int32} {t : List Nat} (hS : tm_SG n A Z) (hg : sg_X (tm_sg n A Z) ay gs so) (hM : cm_M 49 86 T L m) (hg0 : 1 ≤ ng) (hg8 : ng ≤ 8) (ht : m 84 = t) (hl : (m (49 + 4 * (ng - 1))).length ≤ 48) (hr : (m (49 + 4 * (ng - 1) + 1)).length ≤ 48) (hto : x2 < 0 ∨ (m 85).length = 1)
    (hN : (tm_R (tm_sg n A Z) false (m (49 + 4 * (ng - 1))) t t 0).1 + (tm_R (tm_sg n A Z) false (m (49 + 4 * (ng - 1) + 1)) t t 0).1 = 0 → ∀ T' L' E' B' m', cm_M 49 86 T' L' m' → (∀ s, s < 81 → m' s = m s) → post (-8) (xn, xq, xa, nI ng, T', L', ay, gs, so, E', B', pv, vl, el))
    (hU : (tm_R (tm_sg n A Z) false (m (49 + 4 * (ng - 1))) t t 0).1 + (tm_R (tm_sg n A Z) false (m (49 + 4 * (ng - 1) + 1)) t t 0).1 ≠ 0 → x2 < 0 → ∀ T' L' E' B' m', cm_M 49 86 T' L' m' → (∀ s, s < 81 → m' s = m s) → post (-4) (xn, xq, xa, nI ng, T', L', ay, gs, so, E', B', pv, vl, el))
    (hO : (tm_R (tm_sg n A Z) false (m (49 + 4 * (ng - 1))) t t 0).1 + (tm_R (tm_sg n A Z) false (m (49 + 4 * (ng - 1) + 1)) t t 0).1 ≠ 0 → ¬ x2 < 0 → ∀ T' L' E' B' m', cm_M 49 86 T' L' m' → m' (49 + 4 * (ng - 1)) = (tm_R (tm_sg n A Z) false (m (49 + 4 * (ng - 1))) t (m 85) 0).2 → m' (49 + 4 * (ng - 1) + 1) = (tm_R (tm_sg n A Z) false (m (49 + 4 * (ng - 1) + 1)) t (m 85) 0).2 → (∀ s, s < 81 → s ≠ 49 + 4 * (ng - 1) → s ≠ 49 + 4 * (ng - 1) + 1 → m' s = m s) → post (nI ng) (xn, xq, xa, nI ng, T', L', ay, gs, so, E', B', pv, vl, el)) : wX_generalize_87 post x2 xn xq xa (nI ng) T L ay gs so E B pv vl el := by
  unfold wX_generalize_87
  refine xp_replS (f := 84) (p := 85) (pat := false) hS hg hM hg0 hg8 (by omega) (by omega) (by omega) (by omega) (by omega) (by omega) (Or.inr ⟨rfl, rfl⟩) (fun T1 L1 E1 B1 m1 hM1 a1 a2 a3 => ?_)
  rw [ht] at a1 a2 ⊢
  have c1 := tm_R_cnt (g := tm_sg n A Z) (pat := false) (w := m (49 + 4 * (ng - 1))) (fr := t) (to := m 85) _ 0 (Nat.le_refl _)
  have c2 := tm_R_cnt (g := tm_sg n A Z) (pat := false) (w := m (49 + 4 * (ng - 1) + 1)) (fr := t) (to := m 85) _ 0 (Nat.le_refl _)
  have d1 := tm_R_cto (g := tm_sg n A Z) (pat := false) (w := m (49 + 4 * (ng - 1))) (fr := t) (to := m 85) (to' := t) _ 0 (Nat.le_refl _)
  have d2 := tm_R_cto (g := tm_sg n A Z) (pat := false) (w := m (49 + 4 * (ng - 1) + 1)) (fr := t) (to := m 85) (to' := t) _ 0 (Nat.le_refl _)
  rw [d1] at c1
  rw [d2] at c2
  rw [d1, d2]
  refine pk_eq ((tm_R (tm_sg n A Z) false (m (49 + 4 * (ng - 1))) t t 0).1 + (tm_R (tm_sg n A Z) false (m (49 + 4 * (ng - 1) + 1)) t t 0).1) 0 (fun z => hN z T1 L1 E1 B1 m1 hM1 (fun s hs => a3 s (by omega) (by omega))) (fun z => ?_)
  by_cases hx : x2 < 0
  · exact br_f (Int32.not_le.mpr hx) (hU z hx T1 L1 E1 B1 m1 hM1 (fun s hs => a3 s (by omega) (by omega)))
  · refine br_t (Int32.not_lt.mp hx) ?_
    have h1 : (m 85).length = 1 := by
      rcases hto with h | h
      · exact absurd h hx
      · exact h
    have l1 := tm_R_len1 (g := tm_sg n A Z) (w := m (49 + 4 * (ng - 1))) (fr := t) h1 _ 0 (Nat.le_refl _)
    have l2 := tm_R_len1 (g := tm_sg n A Z) (w := m (49 + 4 * (ng - 1) + 1)) (fr := t) h1 _ 0 (Nat.le_refl _)
    rw [cm_tl (by omega)] at a1 a2
    refine xp_top hg0 hg8 ?_
    refine xp_copyText (s := 81) hM1 (by omega) (by omega) (by omega) (fun T3 L3 hM3 => ?_)
    rw [nI_1]
    refine xp_copyText (s := 82) hM3 (by omega) (by omega) (by omega) (fun T4 L4 hM4 => ?_)
    rw [cm_set_n (j := 82) (by omega), a1, a2] at hM4
    refine hO z hx T4 L4 E1 B1 _ hM4 ?_ cm_set_s ?_
    · rw [cm_set_n (by omega), cm_set_s]
    · intro s s1 s2 s3
      rw [cm_set_n s3, cm_set_n s2, a3 s (by omega) (by omega)]
theorem xp_gen {post : Int32 → SX → Prop} (hW : iv_W n A Z q ng hy m) (hg : sg_X (tm_sg n A Z) ay gs so) (hM : cm_M 49 86 T L m) (hact : (xa = -1) ∨ (∃ k, k < 8 ∧ xa = nI k ∧ 1 ≤ ng))
    (hA : xa = -1 → ∀ T' L' E' B' m', cm_M 49 86 T' L' m' → m' 0 = [] → (∀ s, 1 ≤ s → s < 81 → m' s = m s) → post (-5) (xn, xq, xa, nI ng, T', L', ay, gs, so, E', B', pv, vl, el))
    (hSy : xa ≠ -1 → tm_ts (tm_sg n A Z) (m 0) = none → ∀ T' L' E' B' m', cm_M 49 86 T' L' m' → m' 0 = [] → (∀ s, 1 ≤ s → s < 81 → m' s = m s) → post (-1) (xn, xq, xa, nI ng, T', L', ay, gs, so, E', B', pv, vl, el))
    (hF : ∀ sv, xa ≠ -1 → tm_ts (tm_sg n A Z) (m 0) = some sv → (m 0).length = 1 ∧ tm_vn (tm_at (m 0) 0) ≠ none → ∀ T' L' E' B' m', cm_M 49 86 T' L' m' → m' 0 = [] → (∀ s, 1 ≤ s → s < 81 → m' s = m s) → post (-2) (xn, xq, xa, nI ng, T', L', ay, gs, so, E', B', pv, vl, el))
    (hN : ∀ sv, xa ≠ -1 → tm_ts (tm_sg n A Z) (m 0) = some sv → ¬ ((m 0).length = 1 ∧ tm_vn (tm_at (m 0) 0) ≠ none) → (tm_R (tm_sg n A Z) false (m (49 + 4 * (ng - 1))) (m 0) (m 0) 0).1 + (tm_R (tm_sg n A Z) false (m (49 + 4 * (ng - 1) + 1)) (m 0) (m 0) 0).1 = 0 → ∀ T' L' E' B' m', cm_M 49 86 T' L' m' → m' 0 = [] → (∀ s, 1 ≤ s → s < 81 → m' s = m s) → post (-8) (xn, xq, xa, nI ng, T', L', ay, gs, so, E', B', pv, vl, el))
    (hU : ∀ sv, xa ≠ -1 → tm_ts (tm_sg n A Z) (m 0) = some sv → ¬ ((m 0).length = 1 ∧ tm_vn (tm_at (m 0) 0) ≠ none) → (tm_R (tm_sg n A Z) false (m (49 + 4 * (ng - 1))) (m 0) (m 0) 0).1 + (tm_R (tm_sg n A Z) false (m (49 + 4 * (ng - 1) + 1)) (m 0) (m 0) 0).1 ≠ 0 → (∀ v, 8 * sv ≤ v → v < 8 * sv + 8 → fr_p m (49 + 4 * (ng - 1)) v) → ∀ T' L' E' B' m', cm_M 49 86 T' L' m' → m' 0 = [] → (∀ s, 1 ≤ s → s < 81 → m' s = m s) → post (-4) (xn, xq, xa, nI ng, T', L', ay, gs, so, E', B', pv, vl, el))
    (hO : ∀ sv v, xa ≠ -1 → tm_ts (tm_sg n A Z) (m 0) = some sv → ¬ ((m 0).length = 1 ∧ tm_vn (tm_at (m 0) 0) ≠ none) → (tm_R (tm_sg n A Z) false (m (49 + 4 * (ng - 1))) (m 0) (m 0) 0).1 + (tm_R (tm_sg n A Z) false (m (49 + 4 * (ng - 1) + 1)) (m 0) (m 0) 0).1 ≠ 0 → fr_l (fr_p m (49 + 4 * (ng - 1))) (8 * sv) v → ∀ T' L' E' B' m', cm_M 49 86 T' L' m' → m' 0 = [] → m' (49 + 4 * (ng - 1)) = (tm_R (tm_sg n A Z) false (m (49 + 4 * (ng - 1))) (m 0) [tm_vc v] 0).2 → m' (49 + 4 * (ng - 1) + 1) = (tm_R (tm_sg n A Z) false (m (49 + 4 * (ng - 1) + 1)) (m 0) [tm_vc v] 0).2 → (∀ s, 1 ≤ s → s < 81 → s ≠ 49 + 4 * (ng - 1) → s ≠ 49 + 4 * (ng - 1) + 1 → m' s = m s) → post (nI ng) (xn, xq, xa, nI ng, T', L', ay, gs, so, E', B', pv, vl, el)) : wpX_generalize post (xn, xq, xa, nI ng, T, L, ay, gs, so, E, B, pv, vl, el) := by
  unfold wpX_generalize
  dsimp only
  obtain ⟨hS, hq8, hg8, h48, hWf, hWr, hWg⟩ := hW
  refine xp_copyText (s := 0) (t := 84) hM (by omega) (by omega) (by omega) (fun T1 L1 hM1 => ?_)
  have hM2 := cm_nil hM1 (s := 0) (by omega)
  have e84 : cm_set (cm_set m 84 (m 0)) 0 [] 84 = m 0 := by rw [cm_set_n (by omega), cm_set_s]
  have e0 : cm_set (cm_set m 84 (m 0)) 0 [] 0 = [] := cm_set_s
  have hfr : ∀ s, s ≠ 0 → s ≠ 84 → cm_set (cm_set m 84 (m 0)) 0 [] s = m s := fun s a b => by rw [cm_set_n a, cm_set_n b]
  refine nm_e ?_
  rcases hact with hx | ⟨k, hk, hx, hg0⟩
  · exact br_f (show ¬ (0 : Int32) ≤ xa by rw [hx]; decide) (hA hx T1 _ E B _ hM2 e0 (fun s a b => hfr s (by omega) (by omega)))
  · have hne : xa ≠ -1 := by rw [hx]; exact xi_neg (by omega)
    refine br_t (show (0 : Int32) ≤ xa by rw [hx]; exact nI_pos' (by omega)) ?_
    have hl84 := cm_len hM2 (s := 84) (by omega)
    rw [e84] at hl84
    show wpX_termSort _ _ 84 0 (upd L1 0 0 84)
    rw [hl84]
    have htt : ((cm_set (cm_set m 84 (m 0)) 0 [] 84).take (m 0).length).drop 0 = m 0 := by rw [e84, cm_tl (Nat.le_refl _), List.drop_zero]
    refine xp_sort (s := 84) (start := 0) hS hg hM2 (by omega) (by rw [e84]; exact Nat.le_refl _) h48 (by omega) ?_ ?_
    · rw [htt]
      intro sv hts
      have hsv : sv < 2 := by
        have p1 := tm_ts_P.mp hts
        obtain ⟨a, s, S', hga, hSS, _⟩ := (tm_P_suf p1 (i := 0) (tm_P_ne p1))
        rw [List.drop_zero] at hSS
        have := tm_P_uniq _ _ _ hSS p1
        obtain ⟨rfl, _⟩ := List.cons.inj this
        exact (tm_sg_b hS hga).2.2.1
      refine br_t (nI_pos' (by omega)) ?_
      refine xp_single (s := 84) hM2 (by omega) ?_ ?_
      · rw [e84]
        exact fun z1 z2 => br_f (by decide) (hF sv hne hts ⟨z1, z2⟩ T1 _ E B _ hM2 e0 (fun s a b => hfr s (by omega) (by omega)))
      · rw [e84]
        intro hns
        refine br_t rfl ?_
        obtain ⟨⟨s9, w1, w2, w3, w4, w5, w6⟩, _, _⟩ := hWg (ng - 1) (by omega)
        have g0 : cm_set (cm_set m 84 (m 0)) 0 [] (49 + 4 * (ng - 1)) = m (49 + 4 * (ng - 1)) := hfr _ (by omega) (by omega)
        have g1 : cm_set (cm_set m 84 (m 0)) 0 [] (49 + 4 * (ng - 1) + 1) = m (49 + 4 * (ng - 1) + 1) := hfr _ (by omega) (by omega)
        have g2 : cm_set (cm_set m 84 (m 0)) 0 [] (49 + 4 * (ng - 1) + 2) = m (49 + 4 * (ng - 1) + 2) := hfr _ (by omega) (by omega)
        have g3 : cm_set (cm_set m 84 (m 0)) 0 [] (49 + 4 * (ng - 1) + 3) = m (49 + 4 * (ng - 1) + 3) := hfr _ (by omega) (by omega)
        have hM3 := cm_nil hM2 (s := 85) (by omega)
        refine xp_fresh hM2 hg0 hg8 hsv ?_ ?_
        · rw [g0, g1, g2, g3]
          intro v hv
          have hv16 : v < 16 := by
            have := hv.2.1
            omega
          refine nm_e (br_f (nI_pos (by omega)) ?_)
          refine xp_letter hv16 ?_
          refine xp_append (s := 85) hM3 (by omega) (tm_vc_lt hv16) (fun T4 L4 hM4 => ?_)
          rw [cm_set_s, cm_set_set, List.nil_append, cm_tl (K := 49) (by rw [List.length_singleton]; omega)] at hM4
          have k84 : cm_set (cm_set (cm_set m 84 (m 0)) 0 []) 85 [tm_vc v] 84 = m 0 := by rw [cm_set_n (by omega), e84]
          have k85 : cm_set (cm_set (cm_set m 84 (m 0)) 0 []) 85 [tm_vc v] 85 = [tm_vc v] := cm_set_s
          have kf : ∀ s, s ≠ 0 → s < 81 → cm_set (cm_set (cm_set m 84 (m 0)) 0 []) 85 [tm_vc v] s = m s := fun s a b => by rw [cm_set_n (by omega), hfr s a (by omega)]
          have k0 : cm_set (cm_set (cm_set m 84 (m 0)) 0 []) 85 [tm_vc v] 0 = [] := by rw [cm_set_n (by omega), e0]
          refine xp_gen87 (t := m 0) hS hg hM4 hg0 hg8 k84 (by rw [kf _ (by omega) (by omega)]; exact w5) (by rw [kf _ (by omega) (by omega)]; exact w6) (Or.inr (by rw [k85]; rfl)) ?_ ?_ ?_
          · rw [kf (49 + 4 * (ng - 1)) (by omega) (by omega), kf (49 + 4 * (ng - 1) + 1) (by omega) (by omega)]
            intro z T5 L5 E5 B5 m5 hM5 f5
            exact hN sv hne hts hns z T5 L5 E5 B5 m5 hM5 (by rw [f5 0 (by omega), k0]) (fun s a b => by rw [f5 s b, kf s (by omega) b])
          · intro _ z
            exact absurd z (nI_pos (by omega))
          · rw [kf (49 + 4 * (ng - 1)) (by omega) (by omega), kf (49 + 4 * (ng - 1) + 1) (by omega) (by omega), k85]
            intro z _ T5 L5 E5 B5 m5 hM5 q1 q2 f5
            exact hO sv v hne hts hns z hv T5 L5 E5 B5 m5 hM5 (by rw [f5 0 (by omega) (by omega) (by omega), k0]) q1 q2 (fun s a b c d => by rw [f5 s b c d, kf s (by omega) b])
        · rw [g0, g1, g2, g3]
          intro hv
          refine nm_e (br_t (by decide) ?_)
          have k84 : cm_set (cm_set (cm_set m 84 (m 0)) 0 []) 85 [] 84 = m 0 := by rw [cm_set_n (by omega), e84]
          have kf : ∀ s, s ≠ 0 → s < 81 → cm_set (cm_set (cm_set m 84 (m 0)) 0 []) 85 [] s = m s := fun s a b => by rw [cm_set_n (by omega), hfr s a (by omega)]
          have k0 : cm_set (cm_set (cm_set m 84 (m 0)) 0 []) 85 [] 0 = [] := by rw [cm_set_n (by omega), e0]
          refine xp_gen87 (t := m 0) hS hg hM3 hg0 hg8 k84 (by rw [kf _ (by omega) (by omega)]; exact w5) (by rw [kf _ (by omega) (by omega)]; exact w6) (Or.inl (by decide)) ?_ ?_ ?_
          · rw [kf (49 + 4 * (ng - 1)) (by omega) (by omega), kf (49 + 4 * (ng - 1) + 1) (by omega) (by omega)]
            intro z T5 L5 E5 B5 m5 hM5 f5
            exact hN sv hne hts hns z T5 L5 E5 B5 m5 hM5 (by rw [f5 0 (by omega), k0]) (fun s a b => by rw [f5 s b, kf s (by omega) b])
          · rw [kf (49 + 4 * (ng - 1)) (by omega) (by omega), kf (49 + 4 * (ng - 1) + 1) (by omega) (by omega)]
            intro z _ T5 L5 E5 B5 m5 hM5 f5
            exact hU sv hne hts hns z hv T5 L5 E5 B5 m5 hM5 (by rw [f5 0 (by omega), k0]) (fun s a b => by rw [f5 s b, kf s (by omega) b])
          · intro _ z
            exact absurd (show (-1 : Int32) < 0 by decide) z
    · rw [htt]
      intro hts
      exact br_f (by decide) (hSy hne hts T1 _ E B _ hM2 e0 (fun s a b => hfr s (by omega) (by omega)))
end XH
end
section
/-! 18: the class: induct, evaluate -/
section XI
variable {xn xq xa xg : Int32} {T L ay gs so E B pv vl el : Nat → Int32} {m : Nat → List Nat} {n q ng : Nat} {A : Nat → List Nat} {Z : Nat → Nat} {hy : Nat → Bool}
theorem xp_step {post : SX → Prop} (hM : cm_M 49 86 T L m) {v : Nat} {hx : Int32} {hh : Nat} (hv : v < 16) (hhx : 8 ≤ v → hx = nI hh ∧ hh < 16) (h : ∀ T' L', cm_M 49 86 T' L' (cm_set (cm_set m 84 [tm_vc v]) 85 (tm_to v hh)) → post (xn, xq, xa, xg, T', L', ay, gs, so, E, B, pv, vl, el)) : wpX_writeStepTerm post (xn, xq, xa, xg, T, L, ay, gs, so, E, B, pv, vl, el) (nI v) hx := by
  unfold wpX_writeStepTerm wX_writeStepTerm_67
  dsimp only
  have hc := tm_vc_lt hv
  refine xp_letter hv (nm_e ?_)
  refine xp_append (s := 84) (cm_nil hM (s := 84) (by omega)) (by omega) hc (fun T1 L1 hM1 => ?_)
  rw [cm_set_s, cm_set_set, List.nil_append, cm_tl (K := 49) (by rw [List.length_singleton]; omega)] at hM1
  have hM2 := cm_nil hM1 (s := 85) (by omega)
  refine nm_e (pk_le 8 v (fun h8 => ?_) (fun h8 => ?_))
  · obtain ⟨rfl, hh16⟩ := hhx h8
    refine xp_letter hh16 ?_
    refine xp_append (s := 85) (c := 67) hM2 (by omega) (by omega) (fun T3 L3 hM3 => ?_)
    rw [cm_set_s, cm_set_set] at hM3
    refine xp_append (s := 85) hM3 (by omega) (tm_vc_lt hh16) (fun T4 L4 hM4 => ?_)
    rw [cm_set_s, cm_set_set, cm_tt] at hM4
    refine xp_append (s := 85) hM4 (by omega) hc (fun T5 L5 hM5 => ?_)
    rw [cm_set_s, cm_set_set, cm_tt] at hM5
    apply h
    unfold tm_to
    rw [if_neg (by omega)]
    exact hM5
  · refine xp_append (s := 85) (c := 83) hM2 (by omega) (by omega) (fun T3 L3 hM3 => ?_)
    rw [cm_set_s, cm_set_set] at hM3
    refine xp_append (s := 85) hM3 (by omega) hc (fun T5 L5 hM5 => ?_)
    rw [cm_set_s, cm_set_set, cm_tt] at hM5
    apply h
    unfold tm_to
    rw [if_pos h8]
    exact hM5
theorem xp_push33 {post : SX → Prop} {c s0 : Nat} (hS : tm_SG n A Z) (hg : sg_X (tm_sg n A Z) ay gs so) (hM : cm_M 49 86 T L m) (hg0 : 1 ≤ ng) (hg8 : ng < 8) (hs0 : s0 = 49 + 4 * (ng - 1)) (hc : c < 256) (h85 : m 85 = []) (hl : (m s0).length ≤ 48) (hr : (m (s0 + 1)).length ≤ 48) (h81 : (m 81).length ≤ 48) (h82 : (m 82).length ≤ 48)
    (h : ∀ T' L' E' B' m', cm_M 49 86 T' L' m' → m' s0 = m 81 → m' (s0 + 1) = m 82 → m' (s0 + 2) = m s0 → m' (s0 + 3) = m (s0 + 1) → m' (s0 + 4) = (tm_R (tm_sg n A Z) false (m s0) (m 84) [c] 0).2 → m' (s0 + 5) = (tm_R (tm_sg n A Z) false (m (s0 + 1)) (m 84) [c] 0).2 → m' (s0 + 6) = [] → m' (s0 + 7) = [] → (∀ s, s < 81 → s < s0 ∨ s0 + 7 < s → m' s = m s) → post (xn, xq, xa, nI (ng + 1), T', L', ay, gs, so, E', B', pv, vl, el)) : wX_pushStepAndBase_33 post (nI s0) (nI (s0 + 4)) (nI c) (nI 85) xn xq xa (nI ng) T L ay gs so E B pv vl el := by
  unfold wX_pushStepAndBase_33
  have hb : s0 + 7 < 81 := by omega
  have hb0 : 49 ≤ s0 := by omega
  clear hs0
  refine xp_append (s := 85) hM (by omega) hc (fun T1 L1 hM1 => ?_)
  rw [h85, List.nil_append, cm_tl (K := 49) (by rw [List.length_singleton]; omega)] at hM1
  have j84 : cm_set m 85 [c] 84 = m 84 := cm_set_n (by omega)
  have j85 : cm_set m 85 [c] 85 = [c] := cm_set_s
  have jf : ∀ s, s ≠ 85 → cm_set m 85 [c] s = m s := fun s a => cm_set_n a
  have l1 := tm_R_len1 (g := tm_sg n A Z) (w := m s0) (fr := m 84) (to := [c]) rfl _ 0 (Nat.le_refl _)
  have l2 := tm_R_len1 (g := tm_sg n A Z) (w := m (s0 + 1)) (fr := m 84) (to := [c]) rfl _ 0 (Nat.le_refl _)
  refine xp_repl (t := s0 + 4) (f := 84) (p := 85) (pat := false) hg (tm_ar_lt hS) hM1 (by omega) (by omega) (by omega) (by omega) (by omega) (by omega) (by omega) (Or.inr ⟨rfl, rfl⟩) (fun T2 L2 E2 B2 hM2 => ?_)
  rw [j84, j85, jf s0 (by omega), cm_tl (by omega)] at hM2
  rw [nI_1 s0, nI_1 (s0 + 4)]
  refine xp_repl (t := s0 + 4 + 1) (f := 84) (p := 85) (pat := false) hg (tm_ar_lt hS) hM2 (by omega) (by omega) (by omega) (by omega) (by omega) (by omega) (by omega) (Or.inr ⟨rfl, rfl⟩) (fun T3 L3 E3 B3 hM3 => ?_)
  rw [cm_set_n (s := s0 + 4) (j := 84) (by omega), cm_set_n (s := s0 + 4) (j := 85) (by omega), cm_set_n (s := s0 + 4) (j := s0 + 1) (by omega), j84, j85, jf (s0 + 1) (by omega), cm_tl (by omega)] at hM3
  have hM4 := cm_nil (cm_nil hM3 (s := s0 + 4 + 2) (by omega)) (s := s0 + 4 + 3) (by omega)
  dsimp only
  rw [show nI (s0 + 4) + 2 = nI (s0 + 4 + 2) from nI_add _ 2, show nI (s0 + 4) + 3 = nI (s0 + 4 + 3) from nI_add _ 3, nI_clamp (n := s0 + 4 + 2) (by omega), nI_clamp (n := s0 + 4 + 3) (by omega), show nI s0 + 2 = nI (s0 + 2) from nI_add _ 2, show nI s0 + 3 = nI (s0 + 3) from nI_add _ 3]
  refine ⟨vp_in_nI (by omega) (by omega), nm_e ⟨vp_in_nI (by omega) (by omega), nm_e ?_⟩⟩
  refine xp_copyText (s := s0) (t := s0 + 2) hM4 (by omega) (by omega) (by omega) (fun T5 L5 hM5 => ?_)
  refine xp_copyText (s := s0 + 1) (t := s0 + 3) hM5 (by omega) (by omega) (by omega) (fun T6 L6 hM6 => ?_)
  refine xp_copyText (s := 81) (t := s0) hM6 (by omega) (by omega) (by omega) (fun T7 L7 hM7 => ?_)
  refine xp_copyText (s := 82) (t := s0 + 1) hM7 (by omega) (by omega) (by omega) (fun T8 L8 hM8 => ?_)
  refine nm_r (nI_1 ng) (h T8 L8 E3 B3 _ hM8 ?_ ?_ ?_ ?_ ?_ ?_ ?_ ?_ ?_)
  · simp (disch := omega) only [cm_set_s, cm_set_n]
  · simp (disch := omega) only [cm_set_s, cm_set_n]
  · simp (disch := omega) only [cm_set_s, cm_set_n]
  · simp (disch := omega) only [cm_set_s, cm_set_n]
  · simp (disch := omega) only [cm_set_s, cm_set_n]
  · show cm_set _ _ _ (s0 + 4 + 1) = _
    simp (disch := omega) only [cm_set_s, cm_set_n]
  · show cm_set _ _ _ (s0 + 4 + 2) = _
    simp (disch := omega) only [cm_set_s, cm_set_n]
  · show cm_set _ _ _ (s0 + 4 + 3) = _
    simp (disch := omega) only [cm_set_s, cm_set_n]
  · intro s h1 h2
    simp (disch := omega) only [cm_set_s, cm_set_n]
theorem xp_ind89 {post : Int32 → SX → Prop} {v hh : Nat} {hx : Int32} (hv : v < 16) (hhx : 8 ≤ v → hx = nI hh ∧ hh < 16) (hS : tm_SG n A Z) (hg : sg_X (tm_sg n A Z) ay gs so) (hM : cm_M 49 86 T L m) (hg0 : 1 ≤ ng) (hg8 : ng < 8) (hl : (m (49 + 4 * (ng - 1))).length ≤ 48) (hr : (m (49 + 4 * (ng - 1) + 1)).length ≤ 48)
    (hL : 48 < (tm_R (tm_sg n A Z) false (m (49 + 4 * (ng - 1))) [tm_vc v] (tm_to v hh) 0).2.length ∨ 48 < (tm_R (tm_sg n A Z) false (m (49 + 4 * (ng - 1) + 1)) [tm_vc v] (tm_to v hh) 0).2.length → ∀ T' L' E' B' m', cm_M 49 86 T' L' m' → (∀ s, s < 81 → m' s = m s) → post (-7) (xn, xq, xa, nI ng, T', L', ay, gs, so, E', B', pv, vl, el))
    (hO : (tm_R (tm_sg n A Z) false (m (49 + 4 * (ng - 1))) [tm_vc v] (tm_to v hh) 0).2.length ≤ 48 → (tm_R (tm_sg n A Z) false (m (49 + 4 * (ng - 1) + 1)) [tm_vc v] (tm_to v hh) 0).2.length ≤ 48 → ∀ T' L' E' B' m', cm_M 49 86 T' L' m' → m' (49 + 4 * (ng - 1)) = (tm_R (tm_sg n A Z) false (m (49 + 4 * (ng - 1))) [tm_vc v] (tm_to v hh) 0).2 → m' (49 + 4 * (ng - 1) + 1) = (tm_R (tm_sg n A Z) false (m (49 + 4 * (ng - 1) + 1)) [tm_vc v] (tm_to v hh) 0).2 →
      m' (49 + 4 * (ng - 1) + 2) = m (49 + 4 * (ng - 1)) → m' (49 + 4 * (ng - 1) + 3) = m (49 + 4 * (ng - 1) + 1) → m' (49 + 4 * (ng - 1) + 4) = (tm_R (tm_sg n A Z) false (m (49 + 4 * (ng - 1))) [tm_vc v] (tm_ba v) 0).2 → m' (49 + 4 * (ng - 1) + 5) = (tm_R (tm_sg n A Z) false (m (49 + 4 * (ng - 1) + 1)) [tm_vc v] (tm_ba v) 0).2 → m' (49 + 4 * (ng - 1) + 6) = [] → m' (49 + 4 * (ng - 1) + 7) = [] →
      (∀ s, s < 81 → s < 49 + 4 * (ng - 1) ∨ 49 + 4 * (ng - 1) + 7 < s → m' s = m s) → post (nI (ng + 1)) (xn, xq, xa, nI (ng + 1), T', L', ay, gs, so, E', B', pv, vl, el)) : wX_induct_89 post (nI v) hx xn xq xa (nI ng) T L ay gs so E B pv vl el := by
  unfold wX_induct_89
  refine xp_step hM hv hhx (fun T1 L1 hM1 => ?_)
  have j84 : cm_set (cm_set m 84 [tm_vc v]) 85 (tm_to v hh) 84 = [tm_vc v] := by rw [cm_set_n (by omega), cm_set_s]
  have j85 : cm_set (cm_set m 84 [tm_vc v]) 85 (tm_to v hh) 85 = tm_to v hh := cm_set_s
  have jf : ∀ s, s < 84 → cm_set (cm_set m 84 [tm_vc v]) 85 (tm_to v hh) s = m s := fun s a => by rw [cm_set_n (by omega), cm_set_n (by omega)]
  refine xp_replS (f := 84) (p := 85) (pat := false) hS hg hM1 hg0 (by omega) (by omega) (by omega) (by omega) (by omega) (by omega) (by omega) (Or.inr ⟨rfl, rfl⟩) (fun T2 L2 E2 B2 m2 hM2 a1 a2 a3 => ?_)
  rw [j84, j85, jf (49 + 4 * (ng - 1)) (by omega)] at a1
  rw [j84, j85, jf (49 + 4 * (ng - 1) + 1) (by omega)] at a2
  have l81 := cm_len hM2 (s := 81) (by omega)
  have l82 := cm_len hM2 (s := 82) (by omega)
  have b81 := cm_le hM2 (s := 81) (by omega)
  have b82 := cm_le hM2 (s := 82) (by omega)
  have t81 := congrArg List.length a1
  have t82 := congrArg List.length a2
  rw [List.length_take] at t81 t82
  have hfr : ∀ s, s < 81 → m2 s = m s := fun s hs => by rw [a3 s (by omega) (by omega), jf s (by omega)]
  dsimp only
  rw [l81, l82]
  refine pk_lt 48 (m2 81).length (fun z => hL (Or.inl (by omega)) T2 L2 E2 B2 m2 hM2 hfr) (fun z => pk_le (m2 82).length 48 (fun z2 => ?_) (fun z2 => hL (Or.inr (by omega)) T2 L2 E2 B2 m2 hM2 hfr))
  rw [cm_tl (by omega)] at a1 a2
  unfold wpX_pushStepAndBase
  dsimp only
  refine xp_top hg0 (by omega) ?_
  rw [show nI (49 + 4 * (ng - 1)) + 4 = nI (49 + 4 * (ng - 1) + 4) from nI_add _ 4]
  refine nm_e (nm_e ?_)
  have hM3 := cm_nil hM2 (s := 85) (by omega)
  have kf : ∀ s, s ≠ 85 → cm_set m2 85 [] s = m2 s := fun s a => cm_set_n a
  have k84 : cm_set m2 85 [] 84 = [tm_vc v] := by rw [kf 84 (by omega), a3 84 (by omega) (by omega), j84]
  have hfin : ∀ c, c < 256 → tm_ba v = [c] → wX_pushStepAndBase_33 (fun u => post u.2.2.2.1 u) (nI (49 + 4 * (ng - 1))) (nI (49 + 4 * (ng - 1) + 4)) (nI c) (nI 85) xn xq xa (nI ng) T2 (upd L2 85 0) ay gs so E2 B2 pv vl el := by
    intro c hc hb
    refine xp_push33 hS hg hM3 hg0 hg8 rfl hc cm_set_s (by rw [kf _ (by omega), hfr _ (by omega)]; exact hl) (by rw [kf _ (by omega), hfr _ (by omega)]; exact hr) (by rw [kf 81 (by omega)]; omega) (by rw [kf 82 (by omega)]; omega) ?_
    rw [kf 81 (by omega), kf 82 (by omega), k84, kf (49 + 4 * (ng - 1)) (by omega), kf (49 + 4 * (ng - 1) + 1) (by omega), hfr (49 + 4 * (ng - 1)) (by omega), hfr (49 + 4 * (ng - 1) + 1) (by omega), a1, a2, ← hb]
    intro T' L' E' B' m' hM' q1 q2 q3 q4 q5 q6 q7 q8 q9
    exact hO (by omega) (by omega) T' L' E' B' m' hM' q1 q2 q3 q4 q5 q6 q7 q8 (fun s h1 h2 => by rw [q9 s h1 h2, kf s (by omega), hfr s h1])
  refine pk_le 8 v (fun h8 => hfin 78 (by omega) (by unfold tm_ba; rw [if_neg (by omega)])) (fun h8 => hfin 90 (by omega) (by unfold tm_ba; rw [if_pos h8]))
theorem xp_induct {post : Int32 → SX → Prop} {k v : Nat} (hk : k < 8) (hv : v < 16) (hW : iv_W n A Z q ng hy m) (hg : sg_X (tm_sg n A Z) ay gs so) (hM : cm_M 49 86 T L m) (hg0 : 1 ≤ ng)
    (hA : ¬ (tm_vc v ∈ m (49 + 4 * (ng - 1)) ∨ tm_vc v ∈ m (49 + 4 * (ng - 1) + 1)) → post (-6) (xn, xq, nI k, nI ng, T, L, ay, gs, so, E, B, pv, vl, el))
    (hU : tm_vc v ∈ m (49 + 4 * (ng - 1)) ∨ tm_vc v ∈ m (49 + 4 * (ng - 1) + 1) → ng = 8 ∨ (8 ≤ v ∧ ∀ u, 8 * 0 ≤ u → u < 8 * 0 + 8 → fr_p m (49 + 4 * (ng - 1)) u) → post (-4) (xn, xq, nI k, nI ng, T, L, ay, gs, so, E, B, pv, vl, el))
    (hL : ∀ hh, tm_vc v ∈ m (49 + 4 * (ng - 1)) ∨ tm_vc v ∈ m (49 + 4 * (ng - 1) + 1) → ng < 8 → (8 ≤ v → fr_l (fr_p m (49 + 4 * (ng - 1))) (8 * 0) hh) → 48 < (tm_R (tm_sg n A Z) false (m (49 + 4 * (ng - 1))) [tm_vc v] (tm_to v hh) 0).2.length ∨ 48 < (tm_R (tm_sg n A Z) false (m (49 + 4 * (ng - 1) + 1)) [tm_vc v] (tm_to v hh) 0).2.length → ∀ T' L' E' B' m', cm_M 49 86 T' L' m' → (∀ s, s < 81 → m' s = m s) → post (-7) (xn, xq, nI k, nI ng, T', L', ay, gs, so, E', B', pv, vl, el))
    (hO : ∀ hh, tm_vc v ∈ m (49 + 4 * (ng - 1)) ∨ tm_vc v ∈ m (49 + 4 * (ng - 1) + 1) → ng < 8 → (8 ≤ v → fr_l (fr_p m (49 + 4 * (ng - 1))) (8 * 0) hh) → (tm_R (tm_sg n A Z) false (m (49 + 4 * (ng - 1))) [tm_vc v] (tm_to v hh) 0).2.length ≤ 48 → (tm_R (tm_sg n A Z) false (m (49 + 4 * (ng - 1) + 1)) [tm_vc v] (tm_to v hh) 0).2.length ≤ 48 → ∀ T' L' E' B' m', cm_M 49 86 T' L' m' → m' (49 + 4 * (ng - 1)) = (tm_R (tm_sg n A Z) false (m (49 + 4 * (ng - 1))) [tm_vc v] (tm_to v hh) 0).2 → m' (49 + 4 * (ng - 1) + 1) = (tm_R (tm_sg n A Z) false (m (49 + 4 * (ng - 1) + 1)) [tm_vc v] (tm_to v hh) 0).2 →
      m' (49 + 4 * (ng - 1) + 2) = m (49 + 4 * (ng - 1)) → m' (49 + 4 * (ng - 1) + 3) = m (49 + 4 * (ng - 1) + 1) → m' (49 + 4 * (ng - 1) + 4) = (tm_R (tm_sg n A Z) false (m (49 + 4 * (ng - 1))) [tm_vc v] (tm_ba v) 0).2 → m' (49 + 4 * (ng - 1) + 5) = (tm_R (tm_sg n A Z) false (m (49 + 4 * (ng - 1) + 1)) [tm_vc v] (tm_ba v) 0).2 → m' (49 + 4 * (ng - 1) + 6) = [] → m' (49 + 4 * (ng - 1) + 7) = [] →
      (∀ s, s < 81 → s < 49 + 4 * (ng - 1) ∨ 49 + 4 * (ng - 1) + 7 < s → m' s = m s) → post (nI (ng + 1)) (xn, xq, nI k, nI (ng + 1), T', L', ay, gs, so, E', B', pv, vl, el)) : wpX_induct post (xn, xq, nI k, nI ng, T, L, ay, gs, so, E, B, pv, vl, el) (nI v) := by
  unfold wpX_induct
  dsimp only
  obtain ⟨hS, hq8, hg8, h48, hWf, hWr, hWg⟩ := hW
  obtain ⟨⟨s9, w1, w2, w3, w4, w5, w6⟩, _, _⟩ := hWg (ng - 1) (by omega)
  refine br_t (nI_pos' (by omega)) (br_f (nI_pos (by omega)) (br_t (nI_lt (b := 16) hv (by decide)) ?_))
  refine xp_top hg0 hg8 ?_
  refine xp_varsOf hM (by omega) (fun k1 s1 => ?_)
  rw [nI_1]
  refine xp_varsOf hM (by omega) (fun k2 s2 => ?_)
  refine nm_r (vb_or k1 k2) ?_
  obtain ⟨b0, b1⟩ := vb_S_bit (vb_S_or s1 s2) hv
  by_cases hin : tm_vc v ∈ m (49 + 4 * (ng - 1)) ∨ tm_vc v ∈ m (49 + 4 * (ng - 1) + 1)
  · refine br_f (fun z => b0.mp z hin) (pk_lt ng 8 (fun h8 => ?_) (fun h8 => hU hin (Or.inl (by omega))))
    refine pk_lt v 8 (fun v8 => ?_) (fun v8 => ?_)
    · exact xp_ind89 (hh := 0) hv (fun z => by omega) hS hg hM hg0 h8 w5 w6 (hL 0 hin h8 (fun z => by omega)) (hO 0 hin h8 (fun z => by omega))
    · refine xp_fresh (sv := 0) hM hg0 hg8 (by omega) (fun hh hfr => ?_) (fun hno => br_f (by decide) (hU hin (Or.inr ⟨v8, hno⟩)))
      have hh16 : hh < 16 := by
        have := hfr.2.1
        omega
      exact br_t (nI_pos' (by omega)) (xp_ind89 (hh := hh) hv (fun _ => ⟨rfl, hh16⟩) hS hg hM hg0 h8 w5 w6 (hL hh hin h8 (fun _ => hfr)) (hO hh hin h8 (fun _ => hfr)))
  · exact br_t (b0.mpr hin) (hA hin)
end XI
end
section
/-! 19: the class: evaluate -/
section XJ
variable {xn xq xa xg : Int32} {T L ay gs so E B pv vl el : Nat → Int32} {m : Nat → List Nat} {n q ng : Nat} {A : Nat → List Nat} {Z : Nat → Nat} {hy : Nat → Bool} {val : Nat → Nat} {e2 : Nat → Nat → Nat}
theorem xl_num {post : SX → Prop} {t k : Nat} (ht : t < 86) (hk : k < 100) (h : ∀ T' L', cm_M 49 86 T' L' (cm_set m t ((m t ++ tm_nu k).take 49)) → post (xn, xq, xa, xg, T', L', ay, gs, so, E, B, pv, vl, el)) :
    ∀ f i T L, k < f + i → i ≤ k → cm_M 49 86 T L (cm_set m t ((m t ++ List.replicate i 83).take 49)) → wX_appendNumber_2 post (nI t) (nI k) f (nI i) xn xq xa xg T L ay gs so E B pv vl el := by
  intro f
  induction f with
  | zero => intro i T L a b; omega
  | succ f ih =>
    intro i T L a b hM
    rw [wX_appendNumber_2]
    dsimp only
    refine pk_le k i (fun hge => ?_) (fun hlt => ?_)
    · have e : i = k := by omega
      subst e
      refine xp_append (c := 90) hM ht (by omega) (fun T1 L1 hM1 => ?_)
      rw [cm_set_s, cm_set_set, cm_tt, List.append_assoc] at hM1
      exact h T1 L1 hM1
    · refine xp_append (c := 83) hM ht (by omega) (fun T1 L1 hM1 => ?_)
      rw [cm_set_s, cm_set_set, cm_tt, List.append_assoc, ← List.replicate_succ'] at hM1
      exact nm_r (nI_1 i) (ih (i + 1) T1 L1 (by omega) (by omega) hM1)
theorem xp_num {post : SX → Prop} (hM : cm_M 49 86 T L m) {t k : Nat} (ht : t < 86) (hk : k < 100) (h : ∀ T' L', cm_M 49 86 T' L' (cm_set m t ((m t ++ tm_nu k).take 49)) → post (xn, xq, xa, xg, T', L', ay, gs, so, E, B, pv, vl, el)) : wpX_appendNumber post (xn, xq, xa, xg, T, L, ay, gs, so, E, B, pv, vl, el) (nI t) (nI k) := by
  unfold wpX_appendNumber
  dsimp only
  refine ⟨k + 1, xl_num ht hk h (k + 1) 0 T L (by omega) (Nat.zero_le _) ?_⟩
  rw [List.replicate_zero, List.append_nil, cm_tl (cm_le hM ht), cm_set_self]
  exact hM
theorem xl_lst {post : SX → Prop} {t v : Nat} (hev : ev_X val e2 vl el) (ht : t < 86) (hv : v < 16) (hv8 : 8 ≤ v) (h : ∀ T' L', cm_M 49 86 T' L' (cm_set m t ((m t ++ tm_vl val e2 v).take 49)) → post (xn, xq, xa, xg, T', L', ay, gs, so, E, B, pv, vl, el)) :
    ∀ f i T L, val v < f + i → i ≤ val v → cm_M 49 86 T L (cm_set m t ((m t ++ tm_el (e2 v) i).take 49)) → wX_appendList_2 post (nI t) (nI v) f (nI i) xn xq xa xg T L ay gs so E B pv vl el := by
  obtain ⟨hvl, h7, h8⟩ := hev v hv
  obtain ⟨h4, he⟩ := h8 hv8
  intro f
  induction f with
  | zero => intro i T L a b; omega
  | succ f ih =>
    intro i T L a b hM
    rw [wX_appendList_2]
    dsimp only
    rw [nI_clamp (n := v) (by omega), hvl]
    refine ⟨vp_in_nI hv (by omega), pk_le (val v) i (fun hge => ?_) (fun hlt => ?_)⟩
    · have e : i = val v := by omega
      subst e
      refine xp_append (c := 78) hM ht (by omega) (fun T1 L1 hM1 => ?_)
      rw [cm_set_s, cm_set_set, cm_tt, List.append_assoc] at hM1
      apply h
      unfold tm_vl
      rw [if_neg (by omega)]
      exact hM1
    · refine xp_append (c := 67) hM ht (by omega) (fun T1 L1 hM1 => ?_)
      rw [cm_set_s, cm_set_set, cm_tt] at hM1
      refine ⟨vp_in_nI hv (by omega), ?_⟩
      dsimp only
      obtain ⟨e3, e4⟩ := he i hlt
      rw [show (4 : Int32) * nI i = nI (4 * i) from pk_mul 4 i, e4]
      refine xp_num hM1 ht (by omega) (fun T2 L2 hM2 => ?_)
      rw [cm_set_s, cm_set_set, cm_tt, List.append_assoc, List.append_assoc] at hM2
      exact nm_r (nI_1 i) (ih (i + 1) T2 L2 (by omega) (by omega) hM2)
theorem xp_lst {post : SX → Prop} (hM : cm_M 49 86 T L m) {t v : Nat} (hev : ev_X val e2 vl el) (ht : t < 86) (hv : v < 16) (hv8 : 8 ≤ v) (h : ∀ T' L', cm_M 49 86 T' L' (cm_set m t ((m t ++ tm_vl val e2 v).take 49)) → post (xn, xq, xa, xg, T', L', ay, gs, so, E, B, pv, vl, el)) : wpX_appendList post (xn, xq, xa, xg, T, L, ay, gs, so, E, B, pv, vl, el) (nI t) (nI v) := by
  unfold wpX_appendList
  dsimp only
  refine ⟨val v + 1, xl_lst hev ht hv hv8 h _ 0 T L (by omega) (Nat.zero_le _) ?_⟩
  show cm_M 49 86 T L (cm_set m t ((m t ++ []).take 49))
  rw [List.append_nil, cm_tl (cm_le hM ht), cm_set_self]
  exact hM
theorem xl_gr {post : SX → Prop} {s t : Nat} (hev : ev_X val e2 vl el) (hs : s < 86) (ht : t < 86) (hst : s ≠ t) (hl49 : (m s).length ≤ 49) (h : ∀ T' L', cm_M 49 86 T' L' (cm_set m t ((tm_gk val e2 16 (m s)).take 49)) → post (xn, xq, xa, xg, T', L', ay, gs, so, E, B, pv, vl, el)) :
    ∀ f i T L, (m s).length < f + i → i ≤ (m s).length → cm_M 49 86 T L (cm_set m t ((tm_gk val e2 16 ((m s).take i)).take 49)) → wX_writeGround_9 post (nI s) (nI t) f (nI i) xn xq xa xg T L ay gs so E B pv vl el := by
  intro f
  induction f with
  | zero => intro i T L a b; omega
  | succ f ih =>
    intro i T L a b hM
    have es : cm_set m t ((tm_gk val e2 16 ((m s).take i)).take 49) s = m s := cm_set_n hst
    rw [wX_writeGround_9]
    dsimp only
    rw [nI_clamp (n := s) (by omega), cm_len hM hs, es]
    refine ⟨vp_in_nI hs (by omega), pk_le (m s).length i (fun hge => ?_) (fun hlt => ?_)⟩
    · rw [cm_tl hge] at hM
      exact h T L hM
    · have hb := cm_b hM hs i
      rw [es] at hb
      have hstep : ∀ u T' L', tm_g1 val e2 16 (tm_at (m s) i) = u → cm_M 49 86 T' L' (cm_set m t ((tm_gk val e2 16 ((m s).take i) ++ u).take 49)) → wX_writeGround_9 post (nI s) (nI t) f (nI i + 1) xn xq xa xg T' L' ay gs so E B pv vl el := by
        intro u T' L' hu hM'
        rw [nI_1]
        refine ih (i + 1) T' L' (by omega) (by omega) ?_
        have e : tm_gk val e2 16 ((m s).take (i + 1)) = tm_gk val e2 16 ((m s).take i) ++ u := by
          rw [← cm_snoc hlt, ← hu]
          unfold tm_gk
          rw [List.flatMap_append, List.flatMap_singleton]
        rw [e]
        exact hM'
      refine xp_sym hM hs (by omega) ?_
      rw [es]
      refine xp_vnum (by omega) (fun v hv hv16 => ?_) (fun hv => ?_)
      · obtain ⟨hvl, h7, _⟩ := hev v hv16
        refine br_t (nI_pos' (by omega)) (pk_le 8 v (fun h8 => ?_) (fun h8 => ?_))
        · refine xp_lst hM hev ht hv16 h8 (fun T1 L1 hM1 => nm_e (hstep _ T1 L1 (tm_g1_v hv hv16) ?_))
          rw [cm_set_s, cm_set_set, cm_tt] at hM1
          exact hM1
        · rw [nI_clamp (n := v) (by omega), hvl]
          refine ⟨vp_in_nI hv16 (by omega), ?_⟩
          refine xp_num hM ht (by omega) (fun T1 L1 hM1 => nm_e (hstep _ T1 L1 (tm_g1_v hv hv16) ?_))
          rw [cm_set_s, cm_set_set, cm_tt] at hM1
          unfold tm_vl
          rw [if_pos h8]
          exact hM1
      · refine br_f (by decide) ?_
        refine xp_append hM ht hb (fun T1 L1 hM1 => nm_e (hstep _ T1 L1 (tm_g1_n hv) ?_))
        rw [cm_set_s, cm_set_set, cm_tt] at hM1
        exact hM1
theorem xp_gr {post : SX → Prop} (hM : cm_M 49 86 T L m) {s t : Nat} (hev : ev_X val e2 vl el) (hs : s < 86) (ht : t < 86) (hst : s ≠ t) (h : ∀ T' L', cm_M 49 86 T' L' (cm_set m t ((tm_gk val e2 16 (m s)).take 49)) → post (xn, xq, xa, xg, T', L', ay, gs, so, E, B, pv, vl, el)) : wpX_writeGround post (xn, xq, xa, xg, T, L, ay, gs, so, E, B, pv, vl, el) (nI s) (nI t) := by
  unfold wpX_writeGround
  dsimp only
  rw [nI_clamp (n := t) (by omega)]
  exact ⟨vp_in_nI ht (by omega), nm_e ⟨(m s).length + 1, xl_gr hev hs ht hst (cm_le hM hs) h _ 0 T _ (by omega) (Nat.zero_le _) (cm_nil hM ht)⟩⟩
theorem xp_eval {post : Int32 → SX → Prop} {k : Nat} (hev : ev_X val e2 vl el) (hW : iv_W n A Z q ng hy m) (hg : sg_X (tm_sg n A Z) ay gs so) (hM : cm_M 49 86 T L m) (hk : k < q)
    (hU : tm_N (tm_sg n A Z) (iv_R m) (tm_gk val e2 16 (m (1 + 2 * k))) = none ∨ tm_N (tm_sg n A Z) (iv_R m) (tm_gk val e2 16 (m (1 + 2 * k + 1))) = none → ∀ T' L' E' B' m', cm_M 49 86 T' L' m' → (∀ s, s < 81 → m' s = m s) → post 3 (xn, nI q, xa, xg, T', L', ay, gs, so, E', B', pv, vl, el))
    (hO : ∀ u v, tm_N (tm_sg n A Z) (iv_R m) (tm_gk val e2 16 (m (1 + 2 * k))) = some u → tm_N (tm_sg n A Z) (iv_R m) (tm_gk val e2 16 (m (1 + 2 * k + 1))) = some v → ∀ T' L' E' B' m', cm_M 49 86 T' L' m' → (∀ s, s < 81 → m' s = m s) → (u = v → post 1 (xn, nI q, xa, xg, T', L', ay, gs, so, E', B', pv, vl, el)) ∧ (u ≠ v → post 2 (xn, nI q, xa, xg, T', L', ay, gs, so, E', B', pv, vl, el))) : wpX_evaluate post (xn, nI q, xa, xg, T, L, ay, gs, so, E, B, pv, vl, el) (nI k) := by
  unfold wpX_evaluate
  dsimp only
  obtain ⟨hS, hq8, hg8, h48, hWf, hWr, hWg⟩ := hW
  obtain ⟨s9, w1, w2, w3, w4, w5, w6⟩ := hWf.1 k hk
  refine br_f (nI_pos (by omega)) (br_t (nI_lt hk (by omega)) ?_)
  rw [show (1 : Int32) + 2 * nI k = nI (1 + 2 * k) from by rw [show (2 : Int32) * nI k = nI (2 * k) from pk_mul 2 k]; exact nI_add 1 _]
  refine nm_e ?_
  refine xp_gr (t := 81) hM hev (by omega) (by omega) (by omega) (fun T1 L1 hM1 => ?_)
  rw [nI_1]
  refine xp_gr (t := 82) hM1 hev (by omega) (by omega) (by omega) (fun T2 L2 hM2 => ?_)
  rw [cm_set_n (m := m) (s := 81) (j := 1 + 2 * k + 1) (by omega)] at hM2
  have hFC : ∀ w, tm_FC (iv_R m) w → tm_FC (iv_R m) (tm_gk val e2 16 w) := by
    intro w hw c hc hf
    rcases tm_gk_mem w hc with h | h
    · exact hw c h hf
    · omega
  generalize hm2 : cm_set (cm_set m 81 ((tm_gk val e2 16 (m (1 + 2 * k))).take 49)) 82 ((tm_gk val e2 16 (m (1 + 2 * k + 1))).take 49) = m2 at hM2
  have d1 : m2 81 = (tm_gk val e2 16 (m (1 + 2 * k))).take 49 := by rw [← hm2, cm_set_n (by omega), cm_set_s]
  have d2 : m2 82 = (tm_gk val e2 16 (m (1 + 2 * k + 1))).take 49 := by rw [← hm2, cm_set_s]
  have df : ∀ s, s < 81 → m2 s = m s := fun s hs => by rw [← hm2, cm_set_n (by omega), cm_set_n (by omega)]
  have hR2 : ∀ i, i < 32 → iv_R m2 i = iv_R m i := fun i hi => df _ (by omega)
  refine xp_normN (s := 81) (S := [s9]) hS (iv_RU_mono (fun _ _ h => h) hR2 hWr.1) hg hM2 (by omega) (by omega) ?_ ?_ ?_
  · rw [d1]
    intro hl
    rw [List.length_take] at hl
    rw [cm_tl (by omega)]
    exact ⟨tm_gk_P _ _ w1, iv_FC_ext (iv_eqne hR2) (hFC _ w3)⟩
  · rw [d1, tm_N_take, tm_N_ext hR2]
    intro u hu T3 L3 E3 B3 m3 hM3 e3 f3
    refine br_f (by decide) ?_
    have hR3 : ∀ i, i < 32 → iv_R m3 i = iv_R m i := fun i hi => by
      show m3 _ = _
      rw [f3 _ (by omega) (by omega)]
      exact df _ (by omega)
    have d3 : m3 82 = (tm_gk val e2 16 (m (1 + 2 * k + 1))).take 49 := by rw [f3 82 (by omega) (by omega), d2]
    refine xp_normN (s := 82) (S := [s9]) hS (iv_RU_mono (fun _ _ h => h) hR3 hWr.1) hg hM3 (by omega) (by omega) ?_ ?_ ?_
    · rw [d3]
      intro hl
      rw [List.length_take] at hl
      rw [cm_tl (by omega)]
      exact ⟨tm_gk_P _ _ w2, iv_FC_ext (iv_eqne hR3) (hFC _ w4)⟩
    · rw [d3, tm_N_take, tm_N_ext hR3]
      intro v hv T4 L4 E4 B4 m4 hM4 e4 f4
      refine br_f (by decide) ?_
      have a1 : m4 81 = u := by rw [f4 81 (by omega) (by omega), e3]
      obtain ⟨o1, o2⟩ := hO u v hu hv T4 L4 E4 B4 m4 hM4 (fun s hs => by rw [f4 s (by omega) (by omega), f3 s (by omega) (by omega), df s hs])
      refine xp_sameT (a := 81) (b := 82) hM4 (by omega) (by omega) ?_ ?_
      · rw [a1, e4]
        exact fun e => br_f (by decide) (o1 e)
      · rw [a1, e4]
        exact fun e => br_t rfl (o2 e)
    · rw [d3, tm_N_take, tm_N_ext hR3]
      intro hv T4 L4 E4 B4 m4 hM4 f4
      exact br_t rfl (hU (Or.inr hv) T4 L4 E4 B4 m4 hM4 (fun s hs => by rw [f4 s (by omega) (by omega), f3 s (by omega) (by omega), df s hs]))
  · rw [d1, tm_N_take, tm_N_ext hR2]
    intro hu T3 L3 E3 B3 m3 hM3 f3
    exact br_t rfl (hU (Or.inl hu) T3 L3 E3 B3 m3 hM3 (fun s hs => by rw [f3 s (by omega) (by omega), df s hs]))
end XJ
end
section
/-! 20: the reference: symbols, appending, copying, counting -/
section YA
variable {yn yq yg ya : Int32} {T L K bo bs be fa fr fe hr ft hyA vl ee wb : Nat → Int32} {m : Nat → List Nat} {n : Nat} {A : Nat → List Nat} {Z : Nat → Nat}
theorem yi_ix (s i : Nat) : nI s * 64 + nI i = nI (s * 64 + i) := by
  rw [show (64 : Int32) = nI 64 from rfl, pk_mul, nI_add]
theorem yp_c {post : Int32 → Prop} (hM : cm_M 64 89 T L m) {s i : Nat} (hs : s < 89) (hi : i < 2 ^ 31) (h : post (nI (tm_at (m s) i))) : wpY_c post (yn, yq, yg, ya, T, L, K, bo, bs, be, fa, fr, fe, hr, ft, hyA, vl, ee, wb) (nI s) (nI i) := by
  unfold wpY_c
  dsimp only
  have hle := cm_le hM hs
  refine br_f (nI_pos hi) ⟨vp_in_nI hs (by omega), ?_⟩
  rw [nI_clamp (n := s) (by omega), cm_len hM hs]
  refine pk_le (m s).length i (fun hge => ?_) (fun hlt => ?_)
  · rw [tm_at_ge hge] at h
    exact h
  · refine br_f (nI_ge (b := 64) (by omega) (by decide)) ?_
    rw [yi_ix, nI_clamp (by omega), cm_t hM hs hlt]
    exact ⟨vp_in_nI (by omega) (by omega), h⟩
theorem yp_cn {post : Int32 → Prop} {x y : Int32} (hi : y < 0) (h : post 0) : wpY_c post (yn, yq, yg, ya, T, L, K, bo, bs, be, fa, fr, fe, hr, ft, hyA, vl, ee, wb) x y := by
  unfold wpY_c
  dsimp only
  exact br_t hi h
theorem yp_put {post : SY → Prop} (hM : cm_M 64 89 T L m) {s c : Nat} (hs : s < 89) (hc : c < 256) (h : ∀ T' L', cm_M 64 89 T' L' (cm_set m s ((m s ++ [c]).take 64)) → post (yn, yq, yg, ya, T', L', K, bo, bs, be, fa, fr, fe, hr, ft, hyA, vl, ee, wb)) : wpY_put post (yn, yq, yg, ya, T, L, K, bo, bs, be, fa, fr, fe, hr, ft, hyA, vl, ee, wb) (nI s) (nI c) := by
  unfold wpY_put
  dsimp only
  have hl := cm_len hM hs
  have hle := cm_le hM hs
  rw [nI_clamp (n := s) (by omega), hl]
  refine ⟨vp_in_nI hs (by omega), pk_le 64 (m s).length (fun hge => ?_) (fun hlt => ?_)⟩
  · apply h
    rw [List.take_append_of_le_length hge, cm_tl hle, cm_set_self]
    exact hM
  · rw [yi_ix, nI_clamp (by omega), nI_1, xi_ch (by omega), xi_nar (by omega)]
    refine ⟨vp_in_nI hs (by omega), vp_in_nI (by omega) (by omega), nm_e ⟨vp_in_nI hs (by omega), vp_in_nI hs (by omega), nm_e ?_⟩⟩
    apply h
    rw [cm_tl (by rw [List.length_append, List.length_singleton]; omega)]
    exact cm_put hM hs rfl hlt hc
theorem yl_cr {post : SY → Prop} {d s b : Nat} (hd : d < 89) (hs : s < 89) (hsd : s ≠ d) (hb : b ≤ (m s).length) : ∀ (f i : Nat) (T L : Nat → Int32) (m' : Nat → List Nat), b < f + i → i ≤ b → m' s = m s → cm_M 64 89 T L m' →
    (∀ T' L', cm_M 64 89 T' L' (cm_set m' d ((m' d ++ ((m s).drop i).take (b - i)).take 64)) → post (yn, yq, yg, ya, T', L', K, bo, bs, be, fa, fr, fe, hr, ft, hyA, vl, ee, wb)) → wY_copyRange_3 post (nI s) (nI b) (nI d) f (nI i) yn yq yg ya T L K bo bs be fa fr fe hr ft hyA vl ee wb := by
  intro f
  induction f with
  | zero => intro i T L m' h1 h2; omega
  | succ f ih =>
    intro i T L m' h1 h2 hms hM h
    have hle := cm_le hM hd
    have hls := cm_le hM hs
    rw [hms] at hls
    rw [wY_copyRange_3]
    dsimp only
    refine pk_le b i (fun hge => ?_) (fun hlt => ?_)
    · apply h
      rw [show b - i = 0 by omega, List.take_zero, List.append_nil, cm_tl hle, cm_set_self]
      exact hM
    · have hbb := cm_b hM hs i
      refine yp_c hM hs (by omega) ?_
      refine yp_put hM hd hbb (fun T1 L1 hM1 => nm_r (nI_1 i) (ih (i + 1) T1 L1 _ (by omega) (by omega) ?_ hM1 ?_))
      · rw [cm_set_n hsd, hms]
      · intro T' L' hM'
        apply h
        rw [cm_set_s, cm_set_set, cm_tt, List.append_assoc, hms] at hM'
        rw [show ((m s).drop i).take (b - i) = tm_at (m s) i :: ((m s).drop (i + 1)).take (b - (i + 1)) by
          rw [tm_drop_cons (by omega), show b - i = (b - (i + 1)) + 1 by omega, List.take_succ_cons]]
        exact hM'
theorem yp_cr {post : SY → Prop} (hM : cm_M 64 89 T L m) {d s a b : Nat} (hd : d < 89) (hs : s < 89) (hsd : s ≠ d) (hb : b ≤ (m s).length) (hab : a ≤ b) (h : ∀ T' L', cm_M 64 89 T' L' (cm_set m d ((m d ++ ((m s).drop a).take (b - a)).take 64)) → post (yn, yq, yg, ya, T', L', K, bo, bs, be, fa, fr, fe, hr, ft, hyA, vl, ee, wb)) : wpY_copyRange post (yn, yq, yg, ya, T, L, K, bo, bs, be, fa, fr, fe, hr, ft, hyA, vl, ee, wb) (nI s) (nI a) (nI b) (nI d) := by
  unfold wpY_copyRange
  dsimp only
  exact ⟨b + 1, yl_cr (m := m) hd hs hsd hb (b + 1) a T L m (by omega) hab rfl hM h⟩
theorem yp_copy {post : SY → Prop} (hM : cm_M 64 89 T L m) {d s : Nat} (hd : d < 89) (hs : s < 89) (hsd : s ≠ d) (h : ∀ T' L', cm_M 64 89 T' L' (cm_set m d (m s)) → post (yn, yq, yg, ya, T', L', K, bo, bs, be, fa, fr, fe, hr, ft, hyA, vl, ee, wb)) : wpY_copy post (yn, yq, yg, ya, T, L, K, bo, bs, be, fa, fr, fe, hr, ft, hyA, vl, ee, wb) (nI s) (nI d) := by
  unfold wpY_copy
  dsimp only
  have h0 := cm_nil hM hd
  have hl := cm_len h0 hs
  rw [cm_set_n hsd] at hl
  have hle := cm_le hM hs
  rw [nI_clamp (n := d) (by omega)]
  refine ⟨vp_in_nI hd (by omega), nm_e ⟨vp_in_nI hs (by omega), ?_⟩⟩
  rw [nI_clamp (n := s) (by omega), hl]
  refine yp_cr (a := 0) h0 hd hs hsd (by rw [cm_set_n hsd]; exact Nat.le_refl _) (Nat.zero_le _) ?_
  intro T' L' hM'
  apply h
  rw [cm_set_s, cm_set_set, List.nil_append, cm_set_n hsd, List.drop_zero, Nat.sub_zero, cm_tl (Nat.le_refl _), cm_tl hle] at hM'
  exact hM'
theorem yl_eqs {post : Int32 → Prop} (hM : cm_M 64 89 T L m) {a b : Nat} (ha : a < 89) (hb : b < 89) (hab : (m a).length = (m b).length) (h1 : m a = m b → post 1) (h0 : m a ≠ m b → post 0) : ∀ f i, (m a).length < f + i → i ≤ (m a).length → (∀ j, j < i → tm_at (m a) j = tm_at (m b) j) → wY_eqSlots_19 post (nI a) (nI b) yn yq yg ya T L K bo bs be fa fr fe hr ft hyA vl ee wb f (nI i) := by
  have hle := cm_le hM ha
  intro f
  induction f with
  | zero => intro i a b; omega
  | succ f ih =>
    intro i a1 b1 hj
    rw [wY_eqSlots_19]
    dsimp only
    rw [nI_clamp (n := a) (by omega), cm_len hM ha]
    refine ⟨vp_in_nI ha (by omega), pk_le (m a).length i (fun hge => h1 (tm_ext hab (fun j hj2 => hj j (by omega)))) (fun hlt => ?_)⟩
    have d1 := cm_b hM ha i
    have d2 := cm_b hM hb i
    refine yp_c hM ha (by omega) ?_
    refine yp_c hM hb (by omega) ?_
    refine pk_eq (tm_at (m a) i) (tm_at (m b) i) (fun e => ?_) (fun e => h0 (fun z => e (by rw [z])))
    refine nm_r (nI_1 i) (ih (i + 1) (by omega) (by omega) ?_)
    intro j hj2
    by_cases q : j = i
    · rw [q]; exact e
    · exact hj j (by omega)
theorem yp_eqs {post : Int32 → Prop} (hM : cm_M 64 89 T L m) {a b : Nat} (ha : a < 89) (hb : b < 89) (h1 : m a = m b → post 1) (h0 : m a ≠ m b → post 0) : wpY_eqSlots post (yn, yq, yg, ya, T, L, K, bo, bs, be, fa, fr, fe, hr, ft, hyA, vl, ee, wb) (nI a) (nI b) := by
  unfold wpY_eqSlots
  dsimp only
  have l1 := cm_le hM ha
  have l2 := cm_le hM hb
  rw [nI_clamp (n := a) (by omega), nI_clamp (n := b) (by omega), cm_len hM ha, cm_len hM hb]
  refine ⟨vp_in_nI ha (by omega), vp_in_nI hb (by omega), pk_eq (m a).length (m b).length (fun e => ?_) (fun e => h0 (fun z => e (by rw [z])))⟩
  exact ⟨_, yl_eqs hM ha hb e h1 h0 ((m a).length + 1) 0 (by omega) (Nat.zero_le _) (fun j hj => absurd hj (Nat.not_lt_zero _))⟩
theorem yl_same {post : Int32 → Prop} (hM : cm_M 64 89 T L m) {s p q z : Nat} (hs : s < 89) (hp : p + z ≤ (m s).length) (hq : q + z ≤ (m s).length) (h1 : (∀ j, j < z → tm_at (m s) (p + j) = tm_at (m s) (q + j)) → post 1) (h0 : ∀ j, j < z → tm_at (m s) (p + j) ≠ tm_at (m s) (q + j) → post 0) :
    ∀ f i, z < f + i → i ≤ z → (∀ j, j < i → tm_at (m s) (p + j) = tm_at (m s) (q + j)) → wY_same_16 post (nI s) (nI p) (nI (p + z)) (nI q) yn yq yg ya T L K bo bs be fa fr fe hr ft hyA vl ee wb f (nI i) := by
  have hle := cm_le hM hs
  intro f
  induction f with
  | zero => intro i a b; omega
  | succ f ih =>
    intro i a b hj
    rw [wY_same_16]
    dsimp only
    rw [pk_sub (by omega), Nat.add_sub_cancel_left]
    refine pk_le z i (fun hge => h1 (fun j hj2 => hj j (by omega))) (fun hlt => ?_)
    have b1 := cm_b hM hs (p + i)
    have b2 := cm_b hM hs (q + i)
    rw [nI_add, nI_add]
    refine yp_c hM hs (by omega) ?_
    refine yp_c hM hs (by omega) ?_
    refine pk_eq (tm_at (m s) (p + i)) (tm_at (m s) (q + i)) (fun e => ?_) (fun e => h0 i hlt e)
    refine nm_r (nI_1 i) (ih (i + 1) (by omega) (by omega) ?_)
    intro j hj2
    by_cases q : j = i
    · rw [q]; exact e
    · exact hj j (by omega)
theorem yp_same {post : Int32 → Prop} {g : tm_G} (hM : cm_M 64 89 T L m) {s p q : Nat} (hs : s < 89) (hp : p < (m s).length) (hq : q < (m s).length) (h1 : tm_sub g (m s) p = tm_sub g (m s) q → post 1) (h0 : tm_sub g (m s) p ≠ tm_sub g (m s) q → post 0) : wpY_same post (yn, yq, yg, ya, T, L, K, bo, bs, be, fa, fr, fe, hr, ft, hyA, vl, ee, wb) (nI s) (nI p) (nI (tm_e g (m s) p)) (nI q) (nI (tm_e g (m s) q)) := by
  unfold wpY_same
  dsimp only
  have hle := cm_le hM hs
  have p1 := tm_e_gt g hp
  have p2 := tm_e_le g (Nat.le_of_lt hp)
  have q1 := tm_e_gt g hq
  have q2 := tm_e_le g (Nat.le_of_lt hq)
  have l1 := tm_sub_len g (Nat.le_of_lt hp)
  have l2 := tm_sub_len g (Nat.le_of_lt hq)
  rw [pk_sub (a := tm_e g (m s) p) (by omega), pk_sub (a := tm_e g (m s) q) (by omega)]
  refine pk_eq (tm_e g (m s) p - p) (tm_e g (m s) q - q) (fun e => ?_) (fun e => h0 ?_)
  · have hx := yl_same (post := post) (yn := yn) (yq := yq) (yg := yg) (ya := ya) (K := K) (bo := bo) (bs := bs) (be := be) (fa := fa) (fr := fr) (fe := fe) (hr := hr) (ft := ft) (hyA := hyA) (vl := vl) (ee := ee) (wb := wb) hM hs (p := p) (q := q) (z := tm_e g (m s) p - p) (by omega) (by omega) (fun hj => h1 ?_) (fun j hj hn => h0 ?_) (tm_e g (m s) p - p + 1) 0 (by omega) (Nat.zero_le _) (fun j hj => absurd hj (Nat.not_lt_zero _))
    · rw [show p + (tm_e g (m s) p - p) = tm_e g (m s) p by omega] at hx
      exact ⟨_, hx⟩
    · apply tm_ext (by omega)
      intro j hj2
      rw [tm_sub_at g (by omega), tm_sub_at g (by omega)]
      exact hj j (by omega)
    · intro z
      apply hn
      rw [← tm_sub_at g (w := m s) (q := p) (by omega), ← tm_sub_at g (w := m s) (q := q) (by omega), z]
  · intro z
    have := congrArg List.length z
    omega
theorem yl_cnt {post : Int32 → Prop} (hM : cm_M 64 89 T L m) {s a b c : Nat} (hs : s < 89) (hb : b ≤ (m s).length) (hc : c < 65536) (h : post (nI (List.count c (((m s).take b).drop a)))) :
    ∀ f i, b < f + i → a ≤ i → i ≤ b → wY_countIn_6 post (nI s) (nI b) (nI c) yn yq yg ya T L K bo bs be fa fr fe hr ft hyA vl ee wb f (nI (List.count c (((m s).take i).drop a))) (nI i) := by
  have hle := cm_le hM hs
  intro f
  induction f with
  | zero => intro i h1 h2 h3; omega
  | succ f ih =>
    intro i h1 h2 h3
    rw [wY_countIn_6]
    dsimp only
    refine pk_le b i (fun hge => ?_) (fun hlt => ?_)
    · have e : i = b := by omega
      subst e
      exact h
    · have hbb := cm_b hM hs i
      have hdt := xi_dt (w := m s) h2 (show i < (m s).length by omega)
      refine yp_c hM hs (by omega) ?_
      have hn := ih (i + 1) (by omega) (by omega) (by omega)
      rw [hdt, List.count_append] at hn
      refine pk_eq (tm_at (m s) i) c (fun e => ?_) (fun e => ?_)
      · rw [e, List.count_singleton_self] at hn
        exact nm_r (nI_1 _) (nm_r (nI_1 i) hn)
      · rw [List.count_eq_zero_of_not_mem (fun z => e (List.mem_singleton.mp z).symm), Nat.add_zero] at hn
        exact nm_r (nI_1 i) hn
theorem yp_cnt {post : Int32 → Prop} (hM : cm_M 64 89 T L m) {s a b c : Nat} (hs : s < 89) (hab : a ≤ b) (hb : b ≤ (m s).length) (hc : c < 65536) (h : post (nI (List.count c (((m s).take b).drop a)))) : wpY_countIn post (yn, yq, yg, ya, T, L, K, bo, bs, be, fa, fr, fe, hr, ft, hyA, vl, ee, wb) (nI s) (nI a) (nI b) (nI c) := by
  unfold wpY_countIn
  dsimp only
  have := yl_cnt (yn := yn) (yq := yq) (yg := yg) (ya := ya) (K := K) (bo := bo) (bs := bs) (be := be) (fa := fa) (fr := fr) (fe := fe) (hr := hr) (ft := ft) (hyA := hyA) (vl := vl) (ee := ee) (wb := wb) hM hs hb hc h (b + 1) a (by omega) (Nat.le_refl _) hab
  rw [List.drop_take_self, List.count_nil] at this
  exact ⟨_, this⟩
theorem yp_occ {post : Int32 → Prop} (hM : cm_M 64 89 T L m) {s c : Nat} (hs : s < 89) (hc : c < 65536) (h1 : c ∈ m s → post 1) (h0 : ¬ c ∈ m s → post 0) : wpY_occurs post (yn, yq, yg, ya, T, L, K, bo, bs, be, fa, fr, fe, hr, ft, hyA, vl, ee, wb) (nI s) (nI c) := by
  unfold wpY_occurs
  dsimp only
  have hle := cm_le hM hs
  rw [nI_clamp (n := s) (by omega), cm_len hM hs]
  refine ⟨vp_in_nI hs (by omega), ?_⟩
  refine yp_cnt (a := 0) hM hs (Nat.zero_le _) (Nat.le_refl _) hc ?_
  rw [cm_tl (Nat.le_refl _), List.drop_zero]
  have hcl : List.count c (m s) ≤ (m s).length := List.count_le_length
  refine pk_le (List.count c (m s)) 0 (fun z => h0 (fun hm => ?_)) (fun z => h1 (List.count_pos_iff.mp z))
  have := List.count_pos_iff.mpr hm
  omega
theorem yp_fun {post : Int32 → Prop} (hn : n ≤ 8) {c : Nat} (hc : c < 65536) (h1 : ∀ f, f < n → c = 70 + f → post (nI f)) (h0 : ¬ (70 ≤ c ∧ c < 70 + n) → post (-1)) : wpY_fun post (nI n, yq, yg, ya, T, L, K, bo, bs, be, fa, fr, fe, hr, ft, hyA, vl, ee, wb) (nI c) := by
  unfold wpY_fun
  dsimp only
  refine pk_lt c 70 (fun a => h0 (by omega)) (fun a => pk_lt 77 c (fun b => h0 (by omega)) (fun b => ?_))
  rw [show nI c - 70 = nI (c - 70) from pk_sub (b := 70) a]
  exact pk_le n (c - 70) (fun z => h0 (by omega)) (fun z => h1 (c - 70) z (by omega))
theorem yp_vnum {post : Int32 → Prop} {c : Nat} (hc : c < 65536) (h1 : ∀ v, tm_vn c = some v → v < 16 → post (nI v)) (h0 : tm_vn c = none → post (-1)) : wpY_varNum post (yn, yq, yg, ya, T, L, K, bo, bs, be, fa, fr, fe, hr, ft, hyA, vl, ee, wb) (nI c) := by
  have := xp_vnum hc h1 h0
  unfold wpX_variableNumber wX_variableNumber_17 at this
  unfold wpY_varNum wY_varNum_17
  exact this
theorem yp_vch {post : Int32 → Prop} {v : Nat} (hv : v < 16) (h : post (nI (tm_vc v))) : wpY_varChar post (yn, yq, yg, ya, T, L, K, bo, bs, be, fa, fr, fe, hr, ft, hyA, vl, ee, wb) (nI v) := by
  unfold wpY_varChar
  dsimp only
  unfold tm_vc at h
  refine pk_le 8 v (fun a => ?_) (fun a => ?_)
  · rw [if_neg (by omega)] at h
    rw [show (112 : Int32) + nI v = nI (112 + v) from nI_add 112 v, show nI (112 + v) - 8 = nI (112 + v - 8) from pk_sub (b := 8) (by omega), show 112 + v - 8 = 104 + v by omega]
    exact h
  · rw [if_pos (by omega)] at h
    rw [show (97 : Int32) + nI v = nI (97 + v) from nI_add 97 v]
    exact h
def yr_H (R : Nat → List Nat) (hr : Nat → Int32) : Prop := ∀ f k, f < 8 → k < 2 → hr (2 * f + k) = if R (4 * f + 2 * k) = [] then 0 else 1
theorem yp_cpl {post : Int32 → Prop} {R : Nat → List Nat} (hH : yr_H R hr) {f : Nat} (hf : f < 8) (h1 : tm_cp R (70 + f) → post 1) (h0 : ¬ tm_cp R (70 + f) → post 0) : wpY_complete post (yn, yq, yg, ya, T, L, K, bo, bs, be, fa, fr, fe, hr, ft, hyA, vl, ee, wb) (nI f) := by
  unfold wpY_complete
  dsimp only
  have a0 := hH f 0 hf (by omega)
  have a1 := hH f 1 hf (by omega)
  unfold tm_cp at h1 h0
  rw [show 70 + f - 70 = f by omega] at h1 h0
  rw [show (2 : Int32) * nI f = nI (2 * f + 0) from pk_mul 2 f, nI_1, nI_clamp (n := 2 * f + 0) (by omega), nI_clamp (n := 2 * f + 0 + 1) (by omega)]
  rw [show hr (2 * f + 0 + 1) = hr (2 * f + 1) from rfl, a0, a1]
  refine ⟨vp_in_nI (by omega) (by omega), ?_⟩
  by_cases e0 : R (4 * f + 2 * 0) = []
  · rw [if_pos e0]
    exact br_t rfl (h0 (fun z => z.1 e0))
  · rw [if_neg e0]
    refine br_f (by decide) ⟨vp_in_nI (by omega) (by omega), ?_⟩
    by_cases e1 : R (4 * f + 2 * 1) = []
    · rw [if_pos e1]
      exact br_t rfl (h0 (fun z => z.2 e1))
    · rw [if_neg e1]
      exact br_f (by decide) (h1 ⟨e0, e1⟩)
theorem yp_ssort {post : Int32 → Prop} (hS : tm_SG n A Z) (hg : sg_Y n A Z fa fr fe) {c : Nat} (hc : c < 65536) (h1 : ∀ a s, tm_sg n A Z c = some (a, s) → post (nI s)) (h0 : tm_sg n A Z c = none → post (-1)) : wpY_symSort post (nI n, yq, yg, ya, T, L, K, bo, bs, be, fa, fr, fe, hr, ft, hyA, vl, ee, wb) (nI c) := by
  unfold wpY_symSort
  dsimp only
  have hn := hS.1
  refine pk_eq c 90 (fun e => h1 [] 0 (by rw [e]; rfl)) (fun e1 => pk_eq c 83 (fun e => h1 [0] 0 (by rw [e]; rfl)) (fun e2 => pk_eq c 78 (fun e => h1 [] 1 (by rw [e]; rfl)) (fun e3 => pk_eq c 67 (fun e => h1 [0, 1] 1 (by rw [e]; rfl)) (fun e4 => ?_))))
  refine yp_vnum hc (fun v hv hv16 => ?_) (fun hv => ?_)
  · have hsv := tm_sg_V (n := n) (A := A) (Z := Z) hv
    refine br_f (nI_pos (by omega)) (pk_le 8 v (fun h8 => ?_) (fun h8 => ?_))
    · rw [if_neg (by omega)] at hsv
      exact h1 _ _ hsv
    · rw [if_pos h8] at hsv
      exact h1 _ _ hsv
  · refine br_t (by decide) ?_
    refine yp_fun hn hc (fun f hf e => ?_) (fun hno => br_t (by decide) (h0 ?_))
    · rw [nI_clamp (n := f) (by omega), (hg f hf).2.2]
      refine br_f (nI_pos (by omega)) ⟨vp_in_nI (by omega) (by omega), h1 (A f) (Z f) ?_⟩
      rw [e]
      exact tm_sg_f hf hn
    · refine tm_sg_o ⟨e1, e2, e3, e4⟩ ?_ ?_ hno
      · intro z
        unfold tm_vn at hv
        rw [if_pos z] at hv
        cases hv
      · intro z
        unfold tm_vn at hv
        rw [if_neg (by omega), if_pos z] at hv
        cases hv
theorem yp_ar {post : Int32 → Prop} (hS : tm_SG n A Z) (hg : sg_Y n A Z fa fr fe) {c : Nat} (hc : c < 65536) (h : post (nI (tm_ar (tm_sg n A Z) c))) : wpY_arity post (nI n, yq, yg, ya, T, L, K, bo, bs, be, fa, fr, fe, hr, ft, hyA, vl, ee, wb) (nI c) := by
  unfold wpY_arity
  dsimp only
  have hn := hS.1
  refine pk_eq c 83 (fun e => ?_) (fun e1 => pk_eq c 67 (fun e => ?_) (fun e2 => ?_))
  · subst e
    exact h
  · subst e
    exact h
  · refine yp_fun hn hc (fun f hf e => ?_) (fun hno => br_t (by decide) ?_)
    · rw [nI_clamp (n := f) (by omega), (hg f hf).1]
      rw [e, tm_ar_some (tm_sg_f hf hn)] at h
      exact br_f (nI_pos (by omega)) ⟨vp_in_nI (by omega) (by omega), h⟩
    · have e0 : tm_ar (tm_sg n A Z) c = 0 := by
        rcases tm_sg_c n A Z c hn with ⟨e, q⟩ | ⟨e, q⟩ | ⟨e, q⟩ | ⟨e, q⟩ | ⟨e, q⟩ | ⟨e, q⟩ | ⟨f, hf, e, q⟩ | ⟨q, _⟩
        · exact tm_ar_some q
        · exact absurd e e1
        · exact tm_ar_some q
        · exact absurd e e2
        · exact tm_ar_some q
        · exact tm_ar_some q
        · omega
        · unfold tm_ar
          rw [q]
      rw [e0] at h
      exact h
theorem yp_as {post : Int32 → Prop} (hS : tm_SG n A Z) (hg : sg_Y n A Z fa fr fe) {c j s : Nat} {a : List Nat} (hc : c < 65536) (hga : tm_sg n A Z c = some (a, s)) (hj : j < a.length) (h : post (nI (tm_at a j))) : wpY_argSort post (nI n, yq, yg, ya, T, L, K, bo, bs, be, fa, fr, fe, hr, ft, hyA, vl, ee, wb) (nI c) (nI j) := by
  unfold wpY_argSort
  dsimp only
  have hn := hS.1
  have hb := tm_sg_b hS hga
  have hnum := so_lt a hb.2.1
  have hpw : 2 ^ a.length ≤ 2 ^ 3 := Nat.pow_le_pow_right (by decide) hb.1
  refine pk_eq c 83 (fun e => ?_) (fun e1 => pk_eq c 67 (fun e => ?_) (fun e2 => ?_))
  · subst e
    rw [tm_sg_83] at hga
    obtain ⟨rfl, _⟩ := Prod.mk.inj (Option.some.inj hga)
    have : j = 0 := by
      rw [List.length_singleton] at hj
      omega
    subst this
    exact h
  · subst e
    rw [tm_sg_67] at hga
    obtain ⟨rfl, _⟩ := Prod.mk.inj (Option.some.inj hga)
    have : j = 0 ∨ j = 1 := by
      have : ([0, 1] : List Nat).length = 2 := rfl
      omega
    rcases this with rfl | rfl
    · exact br_t rfl h
    · exact br_f (by decide) h
  · refine yp_fun hn hc (fun f hf e => ?_) (fun hno => ?_)
    · rw [nI_clamp (n := f) (by omega), (hg f hf).2.1]
      rw [e, tm_sg_f hf hn] at hga
      obtain ⟨rfl, _⟩ := Prod.mk.inj (Option.some.inj hga)
      refine br_f (nI_pos (by omega)) ⟨vp_in_nI (by omega) (by omega), ?_⟩
      rw [vb_bit (by omega) (by omega), so_bit_at hb.2.1 hj]
      exact h
    · exfalso
      rcases tm_sg_c n A Z c hn with ⟨e, q⟩ | ⟨e, q⟩ | ⟨e, q⟩ | ⟨e, q⟩ | ⟨e, q⟩ | ⟨e, q⟩ | ⟨f, hf, e, q⟩ | ⟨q, _⟩
      · rw [hga] at q
        rw [(Prod.mk.inj (Option.some.inj q)).1] at hj
        exact absurd hj (Nat.not_lt_zero _)
      · exact e1 e
      · rw [hga] at q
        rw [(Prod.mk.inj (Option.some.inj q)).1] at hj
        exact absurd hj (Nat.not_lt_zero _)
      · exact e2 e
      · rw [hga] at q
        rw [(Prod.mk.inj (Option.some.inj q)).1] at hj
        exact absurd hj (Nat.not_lt_zero _)
      · rw [hga] at q
        rw [(Prod.mk.inj (Option.some.inj q)).1] at hj
        exact absurd hj (Nat.not_lt_zero _)
      · omega
      · rw [hga] at q
        cases q
end YA
end
section
/-! 21: the reference: sorts, equations, ends, matching, REPLACE -/
section YB
variable {yn yq yg ya : Int32} {T L K bo bs be fa fr fe hr ft hyA vl ee wb : Nat → Int32} {m : Nat → List Nat} {n : Nat} {A : Nat → List Nat} {Z : Nat → Nat}
/-- the stack, its top first in the list -/
def ys_K (S : List Nat) (K : Nat → Int32) : Prop := ∀ j, j < S.length → K (S.length - 1 - j) = nI (tm_at S j)
theorem ys_push {S : List Nat} {K : Nat → Int32} {e : Nat} (h : ys_K S K) : ys_K (e :: S) (upd K S.length (nI e)) := by
  intro j hj
  rw [List.length_cons] at hj ⊢
  cases j with
  | zero =>
    rw [show S.length + 1 - 1 - 0 = S.length by omega, cm_us]
    rfl
  | succ j =>
    rw [cm_un (by omega), show S.length + 1 - 1 - (j + 1) = S.length - 1 - j by omega, h j (by omega)]
    rfl
theorem ys_pop {S : List Nat} {K : Nat → Int32} {e : Nat} (h : ys_K (e :: S) K) : K S.length = nI e ∧ ys_K S K := by
  constructor
  · have := h 0 (by rw [List.length_cons]; omega)
    rw [List.length_cons] at this
    rw [show S.length + 1 - 1 - 0 = S.length by omega] at this
    exact this
  · intro j hj
    have := h (j + 1) (by rw [List.length_cons]; omega)
    rw [List.length_cons] at this
    rw [show S.length - 1 - j = S.length + 1 - 1 - (j + 1) by omega, this]
    rfl
theorem so_B_app {S U : List Nat} (h : so_B S) (h2 : so_B U) : so_B (S ++ U) := by
  intro x hx
  rcases List.mem_append.mp hx with e | e
  · exact h x e
  · exact h2 x e
theorem yl_110 {post : Int32 → SY → Prop} {J : Int32 → Int32 → Int32 → (Nat → Int32) → (Nat → Int32) → (Nat → Int32) → (Nat → Int32) → (Nat → Int32) → (Nat → Int32) → (Nat → Int32) → (Nat → Int32) → (Nat → Int32) → (Nat → Int32) → (Nat → Int32) → (Nat → Int32) → (Nat → Int32) → (Nat → Int32) → (Nat → Int32) → Prop} {x1 x2 x3 x5 : Int32} {c i s : Nat} {a S : List Nat} (hS : tm_SG n A Z) (hg : sg_Y n A Z fa fr fe) (hc : c < 65536) (hga : tm_sg n A Z c = some (a, s)) (hl : S.length ≤ 120)
    (hJ : ∀ K', ys_K (a ++ S) K' → J (nI (a ++ S).length) x5 (nI i + 1) T L K' bo bs be fa fr fe hr ft hyA vl ee wb) : ∀ f j K, j < f → j ≤ a.length → ys_K (a.drop j ++ S) K → wY_sortOf_110 post J x1 x2 x3 x5 (nI i) (nI c) (nI n) yq yg ya f (nI (a.drop j ++ S).length) (nI j - 1) T L K bo bs be fa fr fe hr ft hyA vl ee wb := by
  have h3 := (tm_sg_b hS hga).1
  intro f
  induction f with
  | zero => intro j K a; omega
  | succ f ih =>
    intro j K h1 h2 hK
    rw [wY_sortOf_110]
    dsimp only
    by_cases hz : j = 0
    · subst hz
      exact br_t (by decide) (nm_e (hJ K hK))
    · obtain ⟨k, rfl⟩ : ∃ k, j = k + 1 := ⟨j - 1, by omega⟩
      rw [xi_m1']
      have hlen : (a.drop (k + 1) ++ S).length < 128 := by
        rw [List.length_append, List.length_drop]
        omega
      refine br_f (nI_pos (by omega)) (br_t (nI_lt (b := 128) hlen (by decide)) ?_)
      refine yp_as hS hg hc hga (by omega) ?_
      rw [nI_clamp (n := (a.drop (k + 1) ++ S).length) (by omega)]
      have hp := ys_push (e := tm_at a k) hK
      have hd : tm_at a k :: (a.drop (k + 1) ++ S) = a.drop k ++ S := by
        rw [tm_drop_cons (show k < a.length by omega)]
        rfl
      rw [hd] at hp
      have hl2 : (a.drop (k + 1) ++ S).length + 1 = (a.drop k ++ S).length := by
        rw [← hd, List.length_cons]
      refine ⟨vp_in_nI hlen (by omega), nm_e (nm_r (nI_1 _) (nm_r (e' := nI k - 1) (Int32.sub_eq_add_neg _ _).symm ?_))⟩
      rw [hl2]
      exact ih k _ (by omega) (by omega) hp
theorem yl_96 {post : Int32 → SY → Prop} {J : Int32 → Int32 → Int32 → (Nat → Int32) → (Nat → Int32) → (Nat → Int32) → (Nat → Int32) → (Nat → Int32) → (Nat → Int32) → (Nat → Int32) → (Nat → Int32) → (Nat → Int32) → (Nat → Int32) → (Nat → Int32) → (Nat → Int32) → (Nat → Int32) → (Nat → Int32) → (Nat → Int32) → Prop} {x1 x2 x3 x5 : Int32} {c i s : Nat} {a S : List Nat} (hS : tm_SG n A Z) (hg : sg_Y n A Z fa fr fe) (hc : c < 65536) (hga : tm_sg n A Z c = some (a, s)) (hl : S.length ≤ 120) (hK : ys_K S K)
    (hJ : ∀ K', ys_K (a ++ S) K' → J (nI (a ++ S).length) x5 (nI i + 1) T L K' bo bs be fa fr fe hr ft hyA vl ee wb) : wY_sortOf_96 post J x1 x2 x3 (nI S.length) x5 (nI i) (nI c) (nI n) yq yg ya T L K bo bs be fa fr fe hr ft hyA vl ee wb := by
  unfold wY_sortOf_96
  refine yp_ar hS hg hc ?_
  rw [tm_ar_some hga]
  have := yl_110 (post := post) (J := J) (x1 := x1) (x2 := x2) (x3 := x3) (x5 := x5) (yq := yq) (yg := yg) (ya := ya) (T := T) (L := L) (bo := bo) (bs := bs) (be := be) (hr := hr) (ft := ft) (hyA := hyA) (vl := vl) (ee := ee) (wb := wb) (i := i) hS hg hc hga hl hJ (a.length + 1) a.length K (by omega) (Nat.le_refl _) (by rw [List.drop_eq_nil_of_le (Nat.le_refl _)]; exact hK)
  rw [List.drop_eq_nil_of_le (Nat.le_refl _)] at this
  exact nm_e ⟨_, this⟩
theorem yl_23 {post : Int32 → SY → Prop} {root : Int32} {s a b : Nat} (hS : tm_SG n A Z) (hg : sg_Y n A Z fa fr fe) (hM : cm_M 64 89 T L m) (hs : s < 89) (hb : b ≤ (m s).length) (h48 : b ≤ 48) :
    ∀ f i S K, b - i < f → a < i → i ≤ b → S.length ≤ 2 * i + 1 → so_B S → ys_K S K → (tm_P (tm_sg n A Z) S (((m s).take b).drop i) → ∀ K', post root (nI n, yq, yg, ya, T, L, K', bo, bs, be, fa, fr, fe, hr, ft, hyA, vl, ee, wb)) → (¬ tm_P (tm_sg n A Z) S (((m s).take b).drop i) → ∀ K', post (-1) (nI n, yq, yg, ya, T, L, K', bo, bs, be, fa, fr, fe, hr, ft, hyA, vl, ee, wb)) → wY_sortOf_23 post (nI s) (nI a) (nI b) (nI n) yq yg ya f (nI S.length) root (nI i) T L K bo bs be fa fr fe hr ft hyA vl ee wb := by
  have hlt : ((m s).take b).length = b := by rw [List.length_take]; omega
  intro f
  induction f with
  | zero => intro i S K h; omega
  | succ f ih =>
    intro i S K h1 h2 h3 h4 hB hK hy hn
    rw [wY_sortOf_23]
    dsimp only
    refine pk_le b i (fun hge => ?_) (fun hlt2 => ?_)
    · rw [List.drop_eq_nil_of_le (by omega)] at hy hn
      refine pk_eq S.length 0 (fun e => hy (List.eq_nil_of_length_eq_zero e) K) (fun e => hn (fun z => e (by rw [show S = [] from z]; rfl)) K)
    · have hat : ((m s).take b).drop i = tm_at (m s) i :: ((m s).take b).drop (i + 1) := by
        rw [tm_drop_cons (by omega), tm_at_take (by omega)]
      rw [hat] at hy hn
      refine pk_eq S.length 0 (fun e => hn (fun z => ?_) K) (fun e => ?_)
      · obtain ⟨_, _, _, _, hS2, _⟩ := z
        rw [hS2] at e
        cases e
      · cases S with
        | nil => exact absurd rfl e
        | cons e0 S =>
        have hbb := cm_b hM hs i
        obtain ⟨hk1, hk2⟩ := ys_pop hK
        rw [List.length_cons] at h4
        refine yp_c hM hs (by omega) ?_
        refine yp_ssort hS hg (by omega) (fun ar sv hga => ?_) (fun hga => ?_)
        · have hsv := (tm_sg_b hS hga).2.2.1
          have har := (tm_sg_b hS hga).1
          refine br_t (nI_pos' (by omega)) (nm_r (e' := nI S.length) (pk_m1 S.length) ⟨vp_in_nI (by omega) (by omega), ?_⟩)
          rw [nI_clamp (n := S.length) (by omega), hk1]
          have he2 : e0 < 2 := (so_B_cons hB).1
          refine nm_e (br_f (nI_pos (by omega)) (pk_eq e0 sv (fun q => ?_) (fun q => hn (fun z => ?_) K)))
          · subst q
            unfold wY_sortOf_86
            refine br_f (fun z => by rw [nI_eq (by omega) (by omega)] at z; omega) ?_
            refine yl_96 hS hg (by omega) hga (by omega) hk2 (fun K' hK' => ?_)
            rw [nI_1]
            refine ih (i + 1) (ar ++ S) K' (by omega) (by omega) (by omega) ?_ (so_B_app (tm_sg_b hS hga).2.1 (so_B_cons hB).2) hK' (fun hP => hy ⟨ar, e0, S, hga, rfl, hP⟩) (fun hP => hn (fun z => ?_))
            · rw [List.length_append]
              omega
            · obtain ⟨ar2, s2, S2, hga2, hS2, hP2⟩ := z
              rw [hga] at hga2
              obtain ⟨rfl, rfl⟩ := Prod.mk.inj (Option.some.inj hga2)
              obtain ⟨_, rfl⟩ := List.cons.inj hS2
              exact hP hP2
          · obtain ⟨ar2, s2, S2, hga2, hS2, hP2⟩ := z
            rw [hga] at hga2
            obtain ⟨_, rfl⟩ := Prod.mk.inj (Option.some.inj hga2)
            exact q (List.cons.inj hS2).1
        · refine br_f (by decide) (hn (fun z => ?_) K)
          obtain ⟨_, _, _, hga2, _⟩ := z
          rw [hga] at hga2
          cases hga2
theorem yi_sv {s : Nat} {w : List Nat} (hS : tm_SG n A Z) (p1 : tm_P (tm_sg n A Z) [s] w) : s < 2 := by
  obtain ⟨a, s2, S', hga, hSS, _⟩ := (tm_P_suf p1 (i := 0) (tm_P_ne p1))
  rw [List.drop_zero] at hSS
  have := tm_P_uniq _ _ _ hSS p1
  obtain ⟨rfl, _⟩ := List.cons.inj this
  exact (tm_sg_b hS hga).2.2.1
theorem yp_sort {post : Int32 → SY → Prop} {s a b : Nat} (hS : tm_SG n A Z) (hg : sg_Y n A Z fa fr fe) (hM : cm_M 64 89 T L m) (hs : s < 89) (hb : b ≤ (m s).length) (h48 : b ≤ 48) (hab : a ≤ b + 1)
    (h1 : ∀ sv, tm_ts (tm_sg n A Z) (((m s).take b).drop a) = some sv → ∀ K', post (nI sv) (nI n, yq, yg, ya, T, L, K', bo, bs, be, fa, fr, fe, hr, ft, hyA, vl, ee, wb)) (h0 : tm_ts (tm_sg n A Z) (((m s).take b).drop a) = none → ∀ K', post (-1) (nI n, yq, yg, ya, T, L, K', bo, bs, be, fa, fr, fe, hr, ft, hyA, vl, ee, wb)) : wpY_sortOf post (nI n, yq, yg, ya, T, L, K, bo, bs, be, fa, fr, fe, hr, ft, hyA, vl, ee, wb) (nI s) (nI a) (nI b) := by
  unfold wpY_sortOf
  dsimp only
  have hlt : ((m s).take b).length = b := by rw [List.length_take]; omega
  refine pk_lt a b (fun hlt2 => ?_) (fun hge => ?_)
  · refine nm_e ⟨b + 1, ?_⟩
    rw [wY_sortOf_23]
    dsimp only
    refine br_f (by rw [nI_leI (by omega) (by omega)]; omega) (br_f (by decide) ?_)
    have hbb := cm_b hM hs a
    have hat : ((m s).take b).drop a = tm_at (m s) a :: ((m s).take b).drop (a + 1) := by
      rw [tm_drop_cons (by omega), tm_at_take (by omega)]
    rw [hat] at h1 h0
    refine yp_c hM hs (by omega) ?_
    refine yp_ssort hS hg (by omega) (fun ar sv hga => ?_) (fun hga => ?_)
    · obtain ⟨har, hbar, hsv, _, _⟩ := tm_sg_b hS hga
      refine br_t (nI_pos' (by omega)) (nm_r (e' := nI 0) (by decide) ⟨vp_in_nI (by omega) (by omega), ?_⟩)
      rw [nI_clamp (n := 0) (by omega), cm_us]
      refine nm_e (br_t (by decide) ?_)
      unfold wY_sortOf_86
      refine br_t rfl ?_
      refine yl_96 (S := []) hS hg (by omega) hga (by rw [List.length_nil]; omega) (fun j hj => absurd hj (Nat.not_lt_zero _)) (fun K' hK' => ?_)
      rw [List.append_nil] at hK' ⊢
      rw [nI_1]
      refine yl_23 hS hg hM hs hb h48 b (a + 1) ar K' (by omega) (by omega) (by omega) (by omega) hbar hK' (fun hP => h1 sv (tm_ts_P.mpr ⟨ar, sv, [], hga, rfl, by rw [List.append_nil]; exact hP⟩)) (fun hP => h0 (tm_ts_no (fun s2 z => ?_)))
      obtain ⟨ar2, s3, S2, hga2, hS2, hP2⟩ := z
      rw [hga] at hga2
      obtain ⟨rfl, rfl⟩ := Prod.mk.inj (Option.some.inj hga2)
      obtain ⟨_, rfl⟩ := List.cons.inj hS2
      rw [List.append_nil] at hP2
      exact hP hP2
    · refine br_f (by decide) (h0 (tm_ts_no (fun s2 z => ?_)) _)
      obtain ⟨_, _, _, hga2, _⟩ := z
      rw [hga] at hga2
      cases hga2
  · refine h0 (tm_ts_no (fun s2 z => ?_)) K
    rw [List.drop_eq_nil_of_le (by omega)] at z
    exact absurd z (fun y => nomatch (show [s2] = [] from y))
/-- where the equal signs below i are -/
def ye_I (w : List Nat) (i c : Nat) (x : Int32) : Prop := (c = 0 ∧ ∀ j, j < i → tm_at w j ≠ 61) ∨ (c = 1 ∧ ∃ p, p < i ∧ x = nI p ∧ tm_at w p = 61 ∧ ∀ j, j < i → tm_at w j = 61 → j = p) ∨ (2 ≤ c ∧ ∃ p p', p < p' ∧ p' < i ∧ tm_at w p = 61 ∧ tm_at w p' = 61)
theorem ye_no {w : List Nat} {i c : Nat} {x : Int32} (h : ye_I w i c x) (hn : tm_at w i ≠ 61) : ye_I w (i + 1) c x := by
  rcases h with ⟨h1, h2⟩ | ⟨h1, p, h2, h3, h4, h5⟩ | ⟨h1, p, p', h2, h3, h4, h5⟩
  · refine Or.inl ⟨h1, fun j hj => ?_⟩
    by_cases e : j = i
    · rw [e]; exact hn
    · exact h2 j (by omega)
  · refine Or.inr (Or.inl ⟨h1, p, by omega, h3, h4, fun j hj hw => ?_⟩)
    by_cases e : j = i
    · rw [e] at hw; exact absurd hw hn
    · exact h5 j (by omega) hw
  · exact Or.inr (Or.inr ⟨h1, p, p', h2, by omega, h4, h5⟩)
theorem ye_yes {w : List Nat} {i c : Nat} {x : Int32} (h : ye_I w i c x) (hy : tm_at w i = 61) : ye_I w (i + 1) (c + 1) (nI i) := by
  rcases h with ⟨h1, h2⟩ | ⟨h1, p, h2, h3, h4, h5⟩ | ⟨h1, p, p', h2, h3, h4, h5⟩
  · refine Or.inr (Or.inl ⟨by omega, i, by omega, rfl, hy, fun j hj hw => ?_⟩)
    by_cases e : j = i
    · exact e
    · exact absurd hw (h2 j (by omega))
  · exact Or.inr (Or.inr ⟨by omega, p, i, h2, by omega, h4, hy⟩)
  · exact Or.inr (Or.inr ⟨by omega, p, p', h2, by omega, h4, h5⟩)
theorem yl_eqp {post : Int32 → SY → Prop} {s : Nat} (hS : tm_SG n A Z) (hg : sg_Y n A Z fa fr fe) (hM : cm_M 64 89 T L m) (hs : s < 89) (h48 : (m s).length ≤ 48)
    (h1 : ∀ e, eq_Q (tm_sg n A Z) (m s) e → ∀ K', post (nI e) (nI n, yq, yg, ya, T, L, K', bo, bs, be, fa, fr, fe, hr, ft, hyA, vl, ee, wb)) (h0 : (∀ e, ¬ eq_Q (tm_sg n A Z) (m s) e) → ∀ K', post (-1) (nI n, yq, yg, ya, T, L, K', bo, bs, be, fa, fr, fe, hr, ft, hyA, vl, ee, wb)) :
    ∀ f i c x, (m s).length - i < f → i ≤ (m s).length → c ≤ i → ye_I (m s) i c x → wY_eqPos_7 post (nI s) (nI n) yq yg ya T L K bo bs be fa fr fe hr ft hyA vl ee wb f x (nI c) (nI i) := by
  have g61 : tm_sg n A Z 61 = none := eq_sym hS.1
  intro f
  induction f with
  | zero => intro i c x h; omega
  | succ f ih =>
    intro i c x ha hb hc hI
    rw [wY_eqPos_7]
    dsimp only
    rw [nI_clamp (n := s) (by omega), cm_len hM hs]
    refine ⟨vp_in_nI hs (by omega), pk_le (m s).length i (fun hge => ?_) (fun hlt => ?_)⟩
    · refine pk_eq c 1 (fun e1 => ?_) (fun e1 => h0 (fun e hQ => ?_) K)
      · rcases hI with ⟨z1, _⟩ | ⟨_, p, hp1, rfl, hp3, hp4⟩ | ⟨z1, _⟩
        · omega
        · have hfail : (∀ sv, ¬ (tm_P (tm_sg n A Z) [sv] ((m s).take p) ∧ tm_P (tm_sg n A Z) [sv] ((m s).drop (p + 1)))) → ∀ K', post (-1) (nI n, yq, yg, ya, T, L, K', bo, bs, be, fa, fr, fe, hr, ft, hyA, vl, ee, wb) := by
            intro hno
            refine h0 (fun e' hQ => ?_)
            have hee := eq_Q_only g61 hQ (i := p) (by omega) hp3
            obtain ⟨_, _, sv, q3, q4⟩ := hQ
            rw [← hee] at q3 q4
            exact hno sv ⟨q3, q4⟩
          refine yp_sort (a := 0) hS hg hM hs (by omega) (by omega) (by omega) (fun s1 t1 K1 => ?_) (fun t1 K1 => ?_)
          · rw [List.drop_zero] at t1
            refine ⟨vp_in_nI hs (by omega), ?_⟩
            rw [nI_1]
            dsimp only
            rw [cm_len hM hs]
            refine yp_sort hS hg hM hs (Nat.le_refl _) h48 (by omega) (fun s2 t2 K2 => ?_) (fun t2 K2 => ?_)
            · rw [cm_tl (Nat.le_refl _)] at t2
              have p1 := tm_ts_P.mp t1
              have p2 := tm_ts_P.mp t2
              have b1 : s1 < 2 := yi_sv hS p1
              have b2 : s2 < 2 := yi_sv hS p2
              refine br_f (nI_pos (by omega)) (pk_eq s1 s2 (fun q => ?_) (fun q => hfail (fun sv z => ?_) K2))
              · subst q
                exact h1 p ⟨by omega, hp3, s1, p1, p2⟩ K2
              · have q1 := tm_P_uniq _ _ _ z.1 p1
                have q2 := tm_P_uniq _ _ _ z.2 p2
                exact q (by rw [← (List.cons.inj q1).1, (List.cons.inj q2).1])
            · rw [cm_tl (Nat.le_refl _)] at t2
              have p1 := tm_ts_P.mp t1
              have b1 : s1 < 2 := yi_sv hS p1
              refine br_f (nI_pos (by omega)) (br_f (xi_neg (by omega)) (hfail (fun sv z => ?_) K2))
              rw [tm_ts_P.mpr z.2] at t2
              cases t2
          · rw [List.drop_zero] at t1
            have hf : ∀ K', post (-1) (nI n, yq, yg, ya, T, L, K', bo, bs, be, fa, fr, fe, hr, ft, hyA, vl, ee, wb) := hfail (fun sv z => by
              rw [tm_ts_P.mpr z.1] at t1
              cases t1)
            refine ⟨vp_in_nI hs (by omega), ?_⟩
            rw [nI_1]
            dsimp only
            rw [cm_len hM hs]
            exact yp_sort hS hg hM hs (Nat.le_refl _) h48 (by omega) (fun s2 t2 K2 => br_t (by decide) (hf K2)) (fun t2 K2 => br_t (by decide) (hf K2))
        · omega
      · have hQ2 := hQ
        obtain ⟨q1, q2, _⟩ := hQ2
        rcases hI with ⟨_, z⟩ | ⟨z1, _⟩ | ⟨_, p, p', hp1, hp2, hp3, hp4⟩
        · exact z e (by omega) q2
        · exact e1 z1
        · have r1 := eq_Q_only g61 hQ (i := p) (by omega) hp3
          have r2 := eq_Q_only g61 hQ (i := p') (by omega) hp4
          omega
    · have hbb := cm_b hM hs i
      refine yp_c hM hs (by omega) ?_
      refine pk_eq (tm_at (m s) i) 61 (fun e => ?_) (fun e => ?_)
      · exact nm_r (nI_1 c) (nm_r (nI_1 i) (ih (i + 1) (c + 1) (nI i) (by omega) (by omega) (by omega) (ye_yes hI e)))
      · exact nm_r (nI_1 i) (ih (i + 1) c x (by omega) (by omega) (by omega) (ye_no hI e))
theorem yp_eqp {post : Int32 → SY → Prop} {s : Nat} (hS : tm_SG n A Z) (hg : sg_Y n A Z fa fr fe) (hM : cm_M 64 89 T L m) (hs : s < 89) (h48 : (m s).length ≤ 48)
    (h1 : ∀ e, eq_Q (tm_sg n A Z) (m s) e → ∀ K', post (nI e) (nI n, yq, yg, ya, T, L, K', bo, bs, be, fa, fr, fe, hr, ft, hyA, vl, ee, wb)) (h0 : (∀ e, ¬ eq_Q (tm_sg n A Z) (m s) e) → ∀ K', post (-1) (nI n, yq, yg, ya, T, L, K', bo, bs, be, fa, fr, fe, hr, ft, hyA, vl, ee, wb)) : wpY_eqPos post (nI n, yq, yg, ya, T, L, K, bo, bs, be, fa, fr, fe, hr, ft, hyA, vl, ee, wb) (nI s) := by
  unfold wpY_eqPos
  dsimp only
  exact ⟨(m s).length + 1, yl_eqp hS hg hM hs h48 h1 h0 _ 0 0 (-1) (by omega) (Nat.zero_le _) (Nat.le_refl _) (Or.inl ⟨rfl, fun j hj => absurd hj (Nat.not_lt_zero _)⟩)⟩
theorem yl_end {post : Int32 → Prop} {s : Nat} (hS : tm_SG n A Z) (hg : sg_Y n A Z fa fr fe) (hM : cm_M 64 89 T L m) (hs : s < 89) :
    ∀ f j S1 S2, (m s).length - j < f → j ≤ (m s).length → 1 ≤ S1.length → tm_P (tm_sg n A Z) (S1 ++ S2) ((m s).drop j) → S1.length ≤ 2 ^ 20 + 3 * j → post (nI (j + tm_en (tm_sg n A Z) S1.length ((m s).drop j))) → wY_end_5 post (nI s) (nI n) yq yg ya T L K bo bs be fa fr fe hr ft hyA vl ee wb f (nI S1.length) (nI j) := by
  have hle := cm_le hM hs
  intro f
  induction f with
  | zero => intro j S1 S2 h; omega
  | succ f ih =>
    intro j S1 S2 ha hb h1 hP hbd h
    cases S1 with
    | nil => exact absurd h1 (by decide)
    | cons e0 S1 =>
    have hj : j < (m s).length := by
      have := tm_P_ne hP
      rw [List.length_drop] at this
      omega
    rw [List.length_cons] at hbd
    rw [wY_end_5]
    dsimp only
    rw [nI_clamp (n := s) (by omega), cm_len hM hs]
    have hbb := cm_b hM hs j
    rw [tm_drop_cons hj] at hP h
    obtain ⟨a, sv, S', hga, hSS, hP'⟩ := hP
    rw [List.cons_append] at hSS
    obtain ⟨rfl, rfl⟩ := List.cons.inj hSS
    have h3 := (tm_sg_b hS hga).1
    rw [List.length_cons, tm_en_s, tm_ar_some hga] at h
    refine ⟨vp_in_nI hs (by omega), br_f (by rw [nI_leI (by omega) (by omega)]; omega) ?_⟩
    refine yp_c hM hs (by omega) ?_
    refine yp_ar hS hg (by omega) ?_
    rw [tm_ar_some hga]
    refine nm_r (e' := nI (a ++ S1).length) ?_ ?_
    · rw [List.length_cons, List.length_append, ← nI_1, ← nI_add, Int32.sub_eq_add_neg, Int32.add_assoc, ← Int32.add_assoc 1, Int32.add_comm 1 (nI a.length), Int32.add_assoc, show (1 : Int32) + -1 = 0 from by decide, Int32.add_zero, Int32.add_comm]
    · refine pk_eq (a ++ S1).length 0 (fun z => ?_) (fun z => ?_) rfl rfl (by rw [List.length_append]; omega)
      · rw [List.length_append] at z
        rw [show a.length + S1.length = 0 by omega, tm_en_0] at h
        rw [nI_1]
        exact h
      · refine nm_r (nI_1 j) (ih (j + 1) (a ++ S1) S2 (by omega) (by omega) (by omega) (by rw [List.append_assoc]; exact hP') (by rw [List.length_append]; omega) ?_)
        rw [List.length_append]
        rw [show j + (1 + tm_en (tm_sg n A Z) (a.length + S1.length) ((m s).drop (j + 1))) = j + 1 + tm_en (tm_sg n A Z) (a.length + S1.length) ((m s).drop (j + 1)) by omega] at h
        exact h
theorem yp_end {post : Int32 → Prop} {s i : Nat} {S : List Nat} (hS : tm_SG n A Z) (hg : sg_Y n A Z fa fr fe) (hM : cm_M 64 89 T L m) (hs : s < 89) (hP : tm_P (tm_sg n A Z) S (m s)) (hi : i < (m s).length) (h : post (nI (tm_e (tm_sg n A Z) (m s) i))) : wpY_end post (nI n, yq, yg, ya, T, L, K, bo, bs, be, fa, fr, fe, hr, ft, hyA, vl, ee, wb) (nI s) (nI i) := by
  unfold wpY_end
  dsimp only
  obtain ⟨a, sv, S', hga, hP1, hP2⟩ := tm_P_suf hP hi
  exact ⟨(m s).length + 1, yl_end hS hg hM hs _ i [sv] S' (by omega) (by omega) (Nat.le_refl _) hP1 (by rw [List.length_singleton]; omega) h⟩
end YB
end
section
/-! 22: the reference: matching, filling in, REPLACE, NORMALIZE -/
section YC
variable {yn yq yg ya : Int32} {T L K bo bs be fa fr fe hr ft hyA vl ee wb : Nat → Int32} {m : Nat → List Nat} {n : Nat} {A : Nat → List Nat} {Z : Nat → Nat}
theorem yi_b1 : vp_nar .boolean 1 = 1 := by decide
theorem yi_b0 : vp_nar .boolean 0 = 0 := by decide
theorem yl_match {post : Int32 → SY → Prop} (hS : tm_SG n A Z) (hg : sg_Y n A Z fa fr fe) (hM : cm_M 64 89 T L m) {s f : Nat} {pat : Bool} {fx : Int32} {S : List Nat} (hs : s < 89) (hf : f < 89) (hP : tm_P (tm_sg n A Z) S (m s)) (hpx : (pat = true ∧ fx = 0) ∨ (pat = false ∧ ¬ fx = 0)) :
    ∀ k j q bo bs be b, (m f).length < k + j → j ≤ (m f).length → q ≤ (m s).length → rb_Y (tm_sg n A Z) (m s) bo bs be b → (∀ v q0, b v = some q0 → q0 < (m s).length) →
      (∀ r bo' bs' be', tm_mt (tm_sg n A Z) pat (m s) ((m f).drop j) q b = some r → rb_Y (tm_sg n A Z) (m s) bo' bs' be' r.2 → post (nI r.1) (nI n, yq, yg, ya, T, L, K, bo', bs', be', fa, fr, fe, hr, ft, hyA, vl, ee, wb)) → (∀ bo' bs' be', tm_mt (tm_sg n A Z) pat (m s) ((m f).drop j) q b = none → post (-1) (nI n, yq, yg, ya, T, L, K, bo', bs', be', fa, fr, fe, hr, ft, hyA, vl, ee, wb)) → wY_match_27 post (nI f) (nI s) fx (nI n) yq yg ya k (nI q) (nI j) T L K bo bs be fa fr fe hr ft hyA vl ee wb := by
  have hls := cm_le hM hs
  have hlf := cm_le hM hf
  intro k
  induction k with
  | zero => intro j q bo bs be b h1 h2; omega
  | succ k ih =>
    intro j q bo bs be b h1 h2 h3 hB hb hy hn
    rw [wY_match_27]
    dsimp only
    rw [nI_clamp (n := f) (by omega), cm_len hM hf]
    refine ⟨vp_in_nI hf (by omega), pk_le (m f).length j (fun hge => ?_) (fun hlt => ?_)⟩
    · refine hy (q, b) bo bs be ?_ hB
      rw [List.drop_eq_nil_of_le hge]
      exact tm_mt_nil
    · have hbp := cm_b hM hf j
      rw [tm_drop_cons hlt] at hy hn
      have hsym : ∀ (_ : pat = false ∨ tm_vn (tm_at (m f) j) = none), wY_match_62 post (wY_match_27 post (nI f) (nI s) fx (nI n) yq yg ya k) (nI f) (nI s) (nI q) fx (nI j) (nI (tm_at (m f) j)) (-1) (nI n) yq yg ya T L K bo bs be fa fr fe hr ft hyA vl ee wb := by
        intro hv
        unfold wY_match_62
        rw [nI_clamp (n := s) (by omega), cm_len hM hs]
        refine br_f (by decide) ⟨vp_in_nI hs (by omega), pk_le (m s).length q (fun hq => hn bo bs be (tm_mt_out hq)) (fun hq => ?_)⟩
        rw [tm_mt_sym hq hv] at hy hn
        have hbs := cm_b hM hs q
        refine yp_c hM hs (by omega) ?_
        refine pk_eq (tm_at (m s) q) (tm_at (m f) j) (fun e => ?_) (fun e => ?_)
        · rw [if_pos e] at hy hn
          exact nm_r (nI_1 q) (nm_r (nI_1 j) (ih (j + 1) (q + 1) bo bs be b (by omega) (by omega) (by omega) hB hb hy hn))
        · rw [if_neg e] at hn
          exact hn bo bs be rfl
      refine yp_c hM hf (by omega) ?_
      rcases hpx with ⟨hp1, hp2⟩ | ⟨hp1, hp2⟩
      · subst hp1
        refine br_t hp2 ?_
        refine yp_vnum (by omega) (fun v hv hv16 => ?_) (fun hv => hsym (Or.inr hv))
        unfold wY_match_62
        rw [nI_clamp (n := v) (by omega)]
        refine br_t (nI_pos' (by omega)) ?_
        by_cases hq : q < (m s).length
        · refine yp_end hS hg hM hs hP hq ?_
          have e1 := tm_e_gt (tm_sg n A Z) hq
          have e2 := tm_e_le (tm_sg n A Z) h3
          refine br_t (nI_pos' (by omega)) ⟨vp_in_nI hv16 (by omega), ?_⟩
          cases hbv : b v with
          | none =>
            rw [tm_mt_new hq hv hbv] at hy hn
            rw [(hB v hv16).1 hbv]
            refine br_t rfl ⟨vp_in_nI hv16 (by omega), nm_e ⟨vp_in_nI hv16 (by omega), nm_e ⟨vp_in_nI hv16 (by omega), nm_e (nm_r (nI_1 j) ?_)⟩⟩⟩
            rw [yi_b1]
            refine ih (j + 1) _ _ _ _ (tm_bu b v q) (by omega) (by omega) e2 (rb_Y_up hB) ?_ hy hn
            intro v2 q0 h
            unfold tm_bu at h
            by_cases e : v2 = v
            · rw [if_pos e] at h
              rw [← Option.some.inj h]
              exact hq
            · rw [if_neg e] at h
              exact hb v2 q0 h
          | some q0 =>
            have hq0 := hb v q0 hbv
            obtain ⟨r1, r2, r3⟩ := (hB v hv16).2 q0 hbv
            rw [r1, r2, r3]
            rw [tm_mt_old hq hv hbv] at hy hn
            refine br_f (by decide) ⟨vp_in_nI hv16 (by omega), vp_in_nI hv16 (by omega), ?_⟩
            refine yp_same hM hs hq0 hq (fun e => ?_) (fun e => ?_)
            · rw [if_pos e] at hy hn
              exact br_f (by decide) (nm_r (nI_1 j) (ih (j + 1) _ bo bs be b (by omega) (by omega) e2 hB hb hy hn))
            · rw [if_neg e] at hn
              exact br_t rfl (hn bo bs be rfl)
        · have hno := hn bo bs be (tm_mt_out (by omega))
          unfold wpY_end
          dsimp only
          refine ⟨1, ?_⟩
          rw [wY_end_5]
          dsimp only
          rw [nI_clamp (n := s) (by omega), cm_len hM hs]
          exact ⟨vp_in_nI hs (by omega), br_t (nI_le (by omega) (by omega)) (br_f (by decide) hno)⟩
      · exact br_f hp2 (hsym (Or.inl hp1))
theorem yl_match3 {post : Int32 → SY → Prop} {x1 x2 x3 x4 : Int32} (h : ∀ bo', (∀ v, v < 16 → bo' v = 0) → ∃ k, wY_match_27 post x1 x2 x4 yn yq yg ya k x3 0 T L K bo' bs be fa fr fe hr ft hyA vl ee wb) : ∀ k i bo, 16 < k + i → i ≤ 16 → (∀ v, v < i → bo v = 0) → wY_match_3 post x1 x2 x3 x4 yn yq yg ya k (nI i) T L K bo bs be fa fr fe hr ft hyA vl ee wb := by
  intro k
  induction k with
  | zero => intro i B a b; omega
  | succ k ih =>
    intro i B a b hB
    rw [wY_match_3]
    dsimp only
    refine pk_le 16 i (fun hge => ?_) (fun hlt => ?_)
    · exact h B (fun v hv => hB v (by omega))
    · rw [nI_clamp (n := i) (by omega), yi_b0]
      refine ⟨vp_in_nI hlt (by omega), nm_e (nm_r (nI_1 i) (ih (i + 1) _ (by omega) (by omega) ?_))⟩
      intro v hv
      by_cases e : v = i
      · rw [e, cm_us]
      · rw [cm_un e]
        exact hB v (by omega)
theorem yp_match {post : Int32 → SY → Prop} (hS : tm_SG n A Z) (hg : sg_Y n A Z fa fr fe) (hM : cm_M 64 89 T L m) {s f i : Nat} {pat : Bool} {fx : Int32} {S : List Nat} (hs : s < 89) (hf : f < 89) (hP : tm_P (tm_sg n A Z) S (m s)) (hpx : (pat = true ∧ fx = 0) ∨ (pat = false ∧ ¬ fx = 0)) (hi : i ≤ (m s).length)
    (hy : ∀ r bo' bs' be', tm_mt (tm_sg n A Z) pat (m s) (m f) i (fun _ => none) = some r → rb_Y (tm_sg n A Z) (m s) bo' bs' be' r.2 → post (nI r.1) (nI n, yq, yg, ya, T, L, K, bo', bs', be', fa, fr, fe, hr, ft, hyA, vl, ee, wb)) (hn : ∀ bo' bs' be', tm_mt (tm_sg n A Z) pat (m s) (m f) i (fun _ => none) = none → post (-1) (nI n, yq, yg, ya, T, L, K, bo', bs', be', fa, fr, fe, hr, ft, hyA, vl, ee, wb)) : wpY_match post (nI n, yq, yg, ya, T, L, K, bo, bs, be, fa, fr, fe, hr, ft, hyA, vl, ee, wb) (nI f) (nI s) (nI i) fx := by
  unfold wpY_match
  dsimp only
  refine ⟨17, yl_match3 ?_ 17 0 bo (by omega) (by omega) (fun v hv => absurd hv (Nat.not_lt_zero _))⟩
  intro B' hB'
  refine ⟨(m f).length + 1, yl_match hS hg hM hs hf hP hpx _ 0 i B' bs be (fun _ => none) (by omega) (Nat.zero_le _) hi (fun v hv => ⟨fun _ => hB' v hv, fun q0 z => nomatch z⟩) (fun _ _ z => nomatch z) ?_ ?_⟩
  · rw [List.drop_zero]
    exact hy
  · rw [List.drop_zero]
    exact hn
theorem yl_inst {post : SY → Prop} {d s p : Nat} {pat : Bool} {fx : Int32} (hd : d < 89) (hs : s < 89) (hp : p < 89) (hsd : s ≠ d) (hpd : p ≠ d) {b : Nat → Option Nat} (hB : rb_Y (tm_sg n A Z) (m s) bo bs be b) (hb : ∀ v q0, b v = some q0 → q0 < (m s).length) (hpx : (pat = true ∧ fx = 0) ∨ (pat = false ∧ ¬ fx = 0 ∧ b = fun _ => none)) :
    ∀ k j T L m', (m p).length < k + j → j ≤ (m p).length → m' s = m s → m' p = m p → cm_M 64 89 T L m' → (∀ T' L', cm_M 64 89 T' L' (cm_set m' d ((m' d ++ tm_in (tm_sg n A Z) (m s) b ((m p).drop j)).take 64)) → post (yn, yq, yg, ya, T', L', K, bo, bs, be, fa, fr, fe, hr, ft, hyA, vl, ee, wb)) → wY_inst_3 post (nI p) (nI s) (nI d) fx k (nI j) yn yq yg ya T L K bo bs be fa fr fe hr ft hyA vl ee wb := by
  intro k
  induction k with
  | zero => intro j T L m' a b; omega
  | succ k ih =>
    intro j T L m' h1 h2 hms hmp hM h
    have hlp := cm_le hM hp
    have hls := cm_le hM hs
    have hlt := cm_le hM hd
    rw [hmp] at hlp
    rw [hms] at hls
    rw [wY_inst_3]
    dsimp only
    rw [nI_clamp (n := p) (by omega), cm_len hM hp, hmp]
    refine ⟨vp_in_nI hp (by omega), pk_le (m p).length j (fun hge => ?_) (fun hlt2 => ?_)⟩
    · apply h
      rw [List.drop_eq_nil_of_le hge]
      show cm_M 64 89 T L (cm_set m' d ((m' d ++ []).take 64))
      rw [List.append_nil, cm_tl hlt, cm_set_self]
      exact hM
    · rw [tm_drop_cons hlt2] at h
      have hbb := cm_b hM hp j
      refine yp_c hM hp (by omega) ?_
      rw [hmp]
      rw [hmp] at hbb
      have hnext : ∀ (u : List Nat) T' L', tm_i1 (tm_sg n A Z) (m s) b (tm_at (m p) j) = u → cm_M 64 89 T' L' (cm_set m' d ((m' d ++ u).take 64)) → wY_inst_3 post (nI p) (nI s) (nI d) fx k (nI j + 1) yn yq yg ya T' L' K bo bs be fa fr fe hr ft hyA vl ee wb := by
        intro u T' L' hu hM'
        rw [nI_1]
        refine ih (j + 1) T' L' _ (by omega) (by omega) ?_ ?_ hM' ?_
        · rw [cm_set_n hsd, hms]
        · rw [cm_set_n hpd, hmp]
        · intro T2 L2 hM2
          apply h
          rw [cm_set_s, cm_set_set, cm_tt, List.append_assoc] at hM2
          show cm_M 64 89 T2 L2 (cm_set m' d ((m' d ++ (tm_i1 (tm_sg n A Z) (m s) b (tm_at (m p) j) ++ tm_in (tm_sg n A Z) (m s) b ((m p).drop (j + 1)))).take 64))
          rw [hu]
          exact hM2
      have happ : tm_i1 (tm_sg n A Z) (m s) b (tm_at (m p) j) = [tm_at (m p) j] → wY_inst_78 post (wY_inst_3 post (nI p) (nI s) (nI d) fx k) (nI p) (nI s) (nI d) fx (nI j) (nI (tm_at (m p) j)) yn yq yg ya T L K bo bs be fa fr fe hr ft hyA vl ee wb := by
        intro hu
        unfold wY_inst_78
        exact yp_put hM hd hbb (fun T' L' hM' => nm_e (hnext _ T' L' hu hM'))
      rcases hpx with ⟨hp1, hp2⟩ | ⟨hp1, hp2, hp3⟩
      · refine br_t hp2 ?_
        refine yp_vnum (by omega) (fun v hv hv16 => ?_) (fun hv => ?_)
        · unfold wY_inst_38
          rw [nI_clamp (n := v) (by omega)]
          refine br_f (nI_pos (by omega)) ⟨vp_in_nI hv16 (by omega), ?_⟩
          cases hbv : b v with
          | none =>
            rw [(hB v hv16).1 hbv]
            exact br_t rfl (happ (tm_i1_u hv hbv))
          | some q0 =>
            have hq0 := hb v q0 hbv
            obtain ⟨r1, r2, r3⟩ := (hB v hv16).2 q0 hbv
            rw [r1, r2, r3]
            have e1 := tm_e_gt (tm_sg n A Z) hq0
            have e2 := tm_e_le (tm_sg n A Z) (Nat.le_of_lt hq0)
            refine br_f (by decide) ⟨vp_in_nI hv16 (by omega), vp_in_nI hv16 (by omega), ?_⟩
            refine yp_cr hM hd hs hsd (by rw [hms]; exact e2) (by omega) (fun T' L' hM' => nm_e (hnext _ T' L' (tm_i1_b hv hbv) ?_))
            rw [hms, xi_sub] at hM'
            exact hM'
        · unfold wY_inst_38
          exact br_t (by decide) (happ (tm_i1_n hv))
      · refine br_f hp2 ?_
        unfold wY_inst_38
        refine br_t (by decide) (happ ?_)
        subst hp3
        cases hv : tm_vn (tm_at (m p) j) with
        | none => exact tm_i1_n hv
        | some v => exact tm_i1_u hv rfl
theorem yp_inst {post : SY → Prop} (hM : cm_M 64 89 T L m) {d s p : Nat} {pat : Bool} {fx : Int32} (hd : d < 89) (hs : s < 89) (hp : p < 89) (hsd : s ≠ d) (hpd : p ≠ d) {b : Nat → Option Nat} (hB : rb_Y (tm_sg n A Z) (m s) bo bs be b) (hb : ∀ v q0, b v = some q0 → q0 < (m s).length) (hpx : (pat = true ∧ fx = 0) ∨ (pat = false ∧ ¬ fx = 0 ∧ b = fun _ => none))
    (h : ∀ T' L', cm_M 64 89 T' L' (cm_set m d ((m d ++ tm_in (tm_sg n A Z) (m s) b (m p)).take 64)) → post (yn, yq, yg, ya, T', L', K, bo, bs, be, fa, fr, fe, hr, ft, hyA, vl, ee, wb)) : wpY_inst post (yn, yq, yg, ya, T, L, K, bo, bs, be, fa, fr, fe, hr, ft, hyA, vl, ee, wb) (nI p) (nI s) (nI d) fx := by
  unfold wpY_inst
  dsimp only
  refine ⟨(m p).length + 1, yl_inst (m := m) hd hs hp hsd hpd hB hb hpx _ 0 T L m (by omega) (Nat.zero_le _) rfl rfl hM ?_⟩
  rw [List.drop_zero]
  exact h
theorem yl_repl {post : Int32 → SY → Prop} (hS : tm_SG n A Z) (hg : sg_Y n A Z fa fr fe) {s t f p sf : Nat} {pat : Bool} {fx : Int32} {S : List Nat} (hs : s < 89) (ht : t < 89) (hf : f < 89) (hp : p < 89) (hst : s ≠ t) (hft : f ≠ t) (hpt : p ≠ t) (hP : tm_P (tm_sg n A Z) S (m s)) (hPf : tm_P (tm_sg n A Z) [sf] (m f)) (hpx : (pat = true ∧ fx = 0) ∨ (pat = false ∧ ¬ fx = 0)) (hl48 : (m s).length ≤ 48) :
    ∀ k i c hits acc T L bo bs be, (m s).length - i < k → i ≤ (m s).length → c ≤ i → hits ≤ i → cm_M 64 89 T L (cm_set m t (acc.take 64)) →
      (∀ T' L' bo' bs' be', cm_M 64 89 T' L' (cm_set m t ((acc ++ (tm_R (tm_sg n A Z) pat (m s) (m f) (m p) i).2).take 64)) → post (nI (hits + (tm_R (tm_sg n A Z) pat (m s) (m f) (m p) i).1)) (nI n, yq, yg, ya, T', L', K, bo', bs', be', fa, fr, fe, hr, ft, hyA, vl, ee, wb)) → wY_repl_16 post (nI s) (nI t) (nI f) (nI p) fx k (nI hits) (nI i) (nI c) (nI n) yq yg ya T L K bo bs be fa fr fe hr ft hyA vl ee wb := by
  have hV := (tm_sg_GS hS).1
  intro k
  induction k with
  | zero => intro i c hits acc T L bo bs be h; omega
  | succ k ih =>
    intro i c hits acc T L bo bs be h1 h2 hc hh hM h
    have es : cm_set m t (acc.take 64) s = m s := cm_set_n hst
    have ef : cm_set m t (acc.take 64) f = m f := cm_set_n hft
    have ep : cm_set m t (acc.take 64) p = m p := cm_set_n hpt
    rw [wY_repl_16]
    dsimp only
    refine br_f (nI_ge (b := 64) (by omega) (by decide)) ?_
    rw [nI_clamp (n := s) (by omega), cm_len hM hs, es]
    refine ⟨vp_in_nI hs (by omega), pk_le (m s).length i (fun hge => ?_) (fun hlt => ?_)⟩
    · rw [tm_R_out hge, List.append_nil] at h
      exact h T L bo bs be hM
    · refine yp_match (m := cm_set m t (acc.take 64)) (pat := pat) (S := S) hS hg hM hs hf (by rw [es]; exact hP) hpx (by rw [es]; omega) ?_ ?_
      · rw [es, ef]
        intro r bo' bs' be' hm hB'
        rw [tm_R_hit hlt hm] at h
        have hend := tm_mt_end hV _ _ _ _ _ hPf hm
        have e1 := tm_e_gt (tm_sg n A Z) hlt
        have e2 := tm_e_le (tm_sg n A Z) (Nat.le_of_lt hlt)
        have hr1 : r.1 = tm_e (tm_sg n A Z) (m s) i := hend
        rw [hr1]
        refine br_f (by rw [nI_leI (by omega) (by omega)]; omega) ?_
        refine yp_inst (m := cm_set m t (acc.take 64)) (pat := pat) hM ht hs hp hst hpt (by rw [es]; exact hB') (by rw [es]; exact tm_mt_pos0 hm) ?_ ?_
        · rcases hpx with q | ⟨q1, q2⟩
          · exact Or.inl q
          · refine Or.inr ⟨q1, q2, ?_⟩
            subst q1
            exact tm_mt_fix _ _ _ _ hm
        · intro T' L' hM'
          rw [cm_set_s, cm_set_set, cm_tt, es, ep] at hM'
          refine nm_r (nI_1 hits) (nm_r (nI_1 c) (ih (tm_e (tm_sg n A Z) (m s) i) (c + 1) (hits + 1) _ T' L' bo' bs' be' (by omega) (by omega) (by omega) (by omega) hM' ?_))
          intro T2 L2 bo2 bs2 be2 hM2
          rw [List.append_assoc] at hM2
          have := h T2 L2 bo2 bs2 be2 hM2
          rw [show hits + ((tm_R (tm_sg n A Z) pat (m s) (m f) (m p) (tm_e (tm_sg n A Z) (m s) i)).1 + 1) = hits + 1 + (tm_R (tm_sg n A Z) pat (m s) (m f) (m p) (tm_e (tm_sg n A Z) (m s) i)).1 by omega] at this
          exact this
      · rw [es, ef]
        intro bo' bs' be' hm
        rw [tm_R_miss hlt hm] at h
        have hbb := cm_b hM hs i
        refine br_t (Int32.le_trans (b := 0) (by decide) (nI_pos' (by omega))) ?_
        refine yp_c hM hs (by omega) ?_
        refine yp_put hM ht hbb (fun T' L' hM' => ?_)
        rw [cm_set_s, cm_set_set, cm_tt, es] at hM'
        refine nm_r (nI_1 i) (nm_r (nI_1 c) (ih (i + 1) (c + 1) hits _ T' L' bo' bs' be' (by omega) (by omega) (by omega) (by omega) hM' ?_))
        intro T2 L2 bo2 bs2 be2 hM2
        rw [List.append_assoc] at hM2
        exact h T2 L2 bo2 bs2 be2 hM2
theorem yp_repl {post : Int32 → SY → Prop} (hS : tm_SG n A Z) (hg : sg_Y n A Z fa fr fe) (hM : cm_M 64 89 T L m) {s t f p sf : Nat} {pat : Bool} {fx : Int32} {S : List Nat} (hs : s < 89) (ht : t < 89) (hf : f < 89) (hp : p < 89) (hst : s ≠ t) (hft : f ≠ t) (hpt : p ≠ t) (hP : tm_P (tm_sg n A Z) S (m s)) (hPf : tm_P (tm_sg n A Z) [sf] (m f)) (hpx : (pat = true ∧ fx = 0) ∨ (pat = false ∧ ¬ fx = 0)) (hl48 : (m s).length ≤ 48)
    (h : ∀ T' L' bo' bs' be', cm_M 64 89 T' L' (cm_set m t ((tm_R (tm_sg n A Z) pat (m s) (m f) (m p) 0).2.take 64)) → post (nI (tm_R (tm_sg n A Z) pat (m s) (m f) (m p) 0).1) (nI n, yq, yg, ya, T', L', K, bo', bs', be', fa, fr, fe, hr, ft, hyA, vl, ee, wb)) : wpY_repl post (nI n, yq, yg, ya, T, L, K, bo, bs, be, fa, fr, fe, hr, ft, hyA, vl, ee, wb) (nI s) (nI t) (nI f) (nI p) fx := by
  unfold wpY_repl
  dsimp only
  rw [nI_clamp (n := t) (by omega)]
  refine ⟨vp_in_nI ht (by omega), nm_e ⟨(m s).length + 1, yl_repl (m := m) hS hg hs ht hf hp hst hft hpt hP hPf hpx hl48 _ 0 0 0 [] T _ bo bs be (by omega) (Nat.zero_le _) (Nat.le_refl _) (Nat.le_refl _) (cm_nil hM ht) ?_⟩⟩
  intro T' L' bo' bs' be' hM'
  rw [Nat.zero_add]
  exact h T' L' bo' bs' be' hM'
end YC
end
section
/-! 23: the reference: NORMALIZE, fresh variables, CLOSE-CHECK -/
section YD
variable {yn yq yg ya : Int32} {T L K bo bs be fa fr fe hr ft hyA vl ee wb : Nat → Int32} {m : Nat → List Nat} {n ng : Nat} {A : Nat → List Nat} {Z : Nat → Nat} {R : Nat → List Nat}
theorem yi_fn {S w : List Nat} {c : Nat} (hS : tm_SG n A Z) (hP : tm_P (tm_sg n A Z) S w) (hc : c ∈ w) (hf : tm_fn c) : c < 70 + n := by
  obtain ⟨a, s, h⟩ := tm_P_sym hP hc
  rcases tm_sg_c n A Z c hS.1 with ⟨e, q⟩ | ⟨e, q⟩ | ⟨e, q⟩ | ⟨e, q⟩ | ⟨e, q⟩ | ⟨e, q⟩ | ⟨f, hf2, e, q⟩ | ⟨q, _⟩
  · omega
  · omega
  · omega
  · omega
  · omega
  · omega
  · omega
  · rw [h] at q
    cases q
theorem yl_st {w : List Nat} {a e : Nat} (y : List Nat) (h : e ≤ w.length) : ((((([] : List Nat) ++ (w.drop 0).take (a - 0)).take 64 ++ y).take 64) ++ (w.drop e).take (w.length - e)).take 64 = (w.take a ++ (y ++ w.drop e)).take 64 := by
  rw [List.drop_zero, Nat.sub_zero, List.nil_append, cm_tt, List.append_assoc, cm_tt, cm_tl (x := w.drop e) (by rw [List.length_drop]; omega)]
theorem yp_rw {post : Int32 → SY → Prop} (hS : tm_SG n A Z) (hg : sg_Y n A Z fa fr fe) (hRU : tm_RU (tm_sg n A Z) R) (hH : yr_H R hr) (hM : cm_M 64 89 T L m) (hRm : ∀ i, i < 32 → m (1 + i) = R i) {s i : Nat} {S : List Nat} (hs : s < 84) (hs2 : 82 ≤ s) (hP : tm_P (tm_sg n A Z) S (m s)) (hF : tm_FC R (m s)) (hl : (m s).length ≤ 48) (hrd : tm_rd (m s) i)
    (h1 : (tm_st (tm_sg n A Z) R (m s) i).length ≤ 48 → ∀ T' L' bo' bs' be' m', cm_M 64 89 T' L' m' → m' s = tm_st (tm_sg n A Z) R (m s) i → (∀ u, u ≠ s → u ≠ 81 → m' u = m u) → post 1 (nI n, yq, yg, ya, T', L', K, bo', bs', be', fa, fr, fe, hr, ft, hyA, vl, ee, wb))
    (h0 : 48 < (tm_st (tm_sg n A Z) R (m s) i).length → ∀ T' L' bo' bs' be' m', cm_M 64 89 T' L' m' → (∀ u, u ≠ s → u ≠ 81 → m' u = m u) → post 0 (nI n, yq, yg, ya, T', L', K, bo', bs', be', fa, fr, fe, hr, ft, hyA, vl, ee, wb)) : wpY_rewriteAt post (nI n, yq, yg, ya, T, L, K, bo, bs, be, fa, fr, fe, hr, ft, hyA, vl, ee, wb) (nI s) (nI i) := by
  unfold wpY_rewriteAt
  dsimp only
  have hs89 : s < 89 := by omega
  have hG := tm_sg_GS hS
  obtain ⟨r, hmm, hne, hst2, hP', hF'⟩ := tm_st_ok hG hRU hP hF hrd
  have hil2 := tm_rd_lt hrd
  have hfn : tm_fn (tm_at (m s) i) := hrd.1
  obtain ⟨k, hk⟩ : ∃ k, tm_kd (tm_at (m s) (i + 1)) = some k := Option.ne_none_iff_exists'.mp hrd.2
  have hkc := tm_kd_c hk
  have hk2 : k < 2 := by omega
  have hri : tm_ri (m s) i = 4 * (tm_at (m s) i - 70) + 2 * k := by
    unfold tm_ri
    rw [hk]
    rfl
  have hdec := yi_fn hS hP (tm_at_mem (w := m s) (i := i) (by omega)) hfn
  have b1 := cm_b hM hs89 i
  have b2 := cm_b hM hs89 (i + 1)
  have hn8 := hS.1
  have hRW := hRU (tm_at (m s) i - 70) k (by omega) hk2 (by rw [← hri]; exact hne)
  obtain ⟨K0, vs, sv, _, _, _, _, hPl, _, _⟩ := hRW
  rw [← hri] at hPl
  have hmain : wY_rewriteAt_43 post (nI s) (nI i) (nI (tm_at (m s) i - 70)) (nI k) (nI n) yq yg ya T L K bo bs be fa fr fe hr ft hyA vl ee wb := by
    unfold wY_rewriteAt_43
    rw [show (2 : Int32) * nI (tm_at (m s) i - 70) = nI (2 * (tm_at (m s) i - 70)) from pk_mul 2 _, nI_add, nI_clamp (n := 2 * (tm_at (m s) i - 70) + k) (by omega), hH _ k (by omega) hk2, ← hri, if_neg hne]
    refine br_f (nI_pos (by omega)) ⟨vp_in_nI (by omega) (by omega), br_f (by decide) ?_⟩
    refine nm_r (e' := nI (1 + tm_ri (m s) i)) ?_ ?_
    · rw [show (2 : Int32) * nI (2 * (tm_at (m s) i - 70) + k) = nI (2 * (2 * (tm_at (m s) i - 70) + k)) from pk_mul 2 _, hri]
      rw [show (1 : Int32) + nI (2 * (2 * (tm_at (m s) i - 70) + k)) = nI (1 + 2 * (2 * (tm_at (m s) i - 70) + k)) from nI_add 1 _]
      exact congrArg nI (by omega)
    · have hru : m (1 + tm_ri (m s) i) = R (tm_ri (m s) i) := hRm _ (by omega)
      have hru2 : m (1 + tm_ri (m s) i + 1) = R (tm_ri (m s) i + 1) := by
        rw [Nat.add_assoc]
        exact hRm _ (by omega)
      refine yp_match (pat := true) hS hg hM hs89 (by omega) hP (Or.inl ⟨rfl, rfl⟩) (by omega) ?_ ?_
      · rw [hru]
        intro r' bo' bs' be' hm' hB'
        rw [hmm] at hm'
        obtain rfl := Option.some.inj hm'
        have hpos := tm_mt_pos0 hmm
        have hend : r.1 = tm_e (tm_sg n A Z) (m s) i := tm_mt_end hG.1 _ _ _ _ _ hPl hmm
        have e1 := tm_e_gt (tm_sg n A Z) (w := m s) (q := i) (by omega)
        have e2 := tm_e_le (tm_sg n A Z) (w := m s) (q := i) (by omega)
        rw [hend]
        refine br_t (nI_pos' (by omega)) (nm_e ?_)
        have hM1 := cm_nil hM (s := 81) (by omega)
        have q1 : ∀ {u : List Nat}, cm_set m 81 u s = m s := cm_set_n (by omega)
        have q2 : ∀ {u : List Nat}, cm_set m 81 u (1 + tm_ri (m s) i + 1) = m (1 + tm_ri (m s) i + 1) := cm_set_n (by omega)
        refine yp_cr (s := s) (d := 81) (a := 0) hM1 (by omega) hs89 (by omega) (by rw [q1]; omega) (Nat.zero_le _) (fun T2 L2 hM2 => ?_)
        rw [cm_set_s, cm_set_set, q1] at hM2
        rw [show nI (1 + tm_ri (m s) i) + 1 = nI (1 + tm_ri (m s) i + 1) from nI_1 _]
        refine yp_inst (s := s) (d := 81) (pat := true) hM2 (by omega) hs89 (by omega) (by omega) (by omega) (by rw [q1]; exact hB') (by rw [q1]; exact hpos) (Or.inl ⟨rfl, rfl⟩) (fun T3 L3 hM3 => ?_)
        rw [cm_set_s, cm_set_set, q1, q2, hru2] at hM3
        have hl3 := cm_len hM3 hs89
        rw [q1] at hl3
        refine ⟨vp_in_nI hs89 (by omega), ?_⟩
        dsimp only
        rw [nI_clamp (n := s) (by omega), hl3]
        refine yp_cr (s := s) (d := 81) hM3 (by omega) hs89 (by omega) (by rw [q1]; exact Nat.le_refl _) e2 (fun T4 L4 hM4 => ?_)
        rw [cm_set_s, cm_set_set, q1, yl_st _ e2, ← hst2] at hM4
        have hl4 := cm_len hM4 (s := 81) (by omega)
        rw [cm_set_s, List.length_take] at hl4
        dsimp only
        rw [hl4]
        refine pk_le (min 64 (tm_st (tm_sg n A Z) R (m s) i).length) 48 (fun z => ?_) (fun z => ?_)
        · have hlen : (tm_st (tm_sg n A Z) R (m s) i).length ≤ 48 := by omega
          rw [cm_tl (by omega)] at hM4
          refine yp_copy (s := 81) (d := s) hM4 hs89 (by omega) (by omega) (fun T5 L5 hM5 => ?_)
          rw [cm_set_s] at hM5
          refine h1 hlen T5 L5 bo' bs' be' _ hM5 cm_set_s (fun u u1 u2 => ?_)
          rw [cm_set_n u1, cm_set_n u2]
        · exact h0 (by omega) T4 L4 bo' bs' be' _ hM4 (fun u u1 u2 => cm_set_n u2)
      · rw [hru, hmm]
        intro _ _ _ z
        cases z
  refine yp_c hM hs89 (by omega) ?_
  refine yp_fun hn8 (by omega) (fun f hf e => ?_) (fun hno => absurd ⟨hfn.1, hdec⟩ hno)
  have ef : f = tm_at (m s) i - 70 := by omega
  subst ef
  rw [nI_1]
  refine yp_c hM hs89 (by omega) ?_
  unfold wY_rewriteAt_38
  refine pk_eq (tm_at (m s) (i + 1)) 90 (fun z => ?_) (fun z1 => pk_eq (tm_at (m s) (i + 1)) 78 (fun z => ?_) (fun z2 => ?_))
  · have : k = 0 := by omega
    subst this
    exact hmain
  · have : k = 0 := by omega
    subst this
    exact hmain
  · have : k = 1 := by omega
    subst this
    exact hmain
theorem yl_21 {post : Int32 → SY → Prop} {J : Int32 → Int32 → Int32 → Int32 → Int32 → (Nat → Int32) → (Nat → Int32) → (Nat → Int32) → (Nat → Int32) → (Nat → Int32) → (Nat → Int32) → (Nat → Int32) → (Nat → Int32) → (Nat → Int32) → (Nat → Int32) → (Nat → Int32) → (Nat → Int32) → (Nat → Int32) → (Nat → Int32) → (Nat → Int32) → Prop} {x2 : Int32} (hS : tm_SG n A Z) (hM : cm_M 64 89 T L m) {s : Nat} {S : List Nat} (hs : s < 89) (hP : tm_P (tm_sg n A Z) S (m s)) :
    ∀ f j, j + 1 < f → j ≤ (m s).length → (∀ i, tm_rx (m s) j = some i → wY_norm_96 post J (nI s) x2 (nI i) (nI n) yq yg ya T L K bo bs be fa fr fe hr ft hyA vl ee wb) → (tm_rx (m s) j = none → wY_norm_96 post J (nI s) x2 (-1) (nI n) yq yg ya T L K bo bs be fa fr fe hr ft hyA vl ee wb) → wY_norm_21 post J (nI s) x2 (nI n) yq yg ya T L K bo bs be fa fr fe hr ft hyA vl ee wb f (-1) (nI j - 1) := by
  have hle := cm_le hM hs
  intro f
  induction f with
  | zero => intro j a; omega
  | succ f ih =>
    intro j a b h1 h0
    rw [wY_norm_21]
    dsimp only
    by_cases hz : j = 0
    · subst hz
      exact br_t (by decide) (h0 rfl)
    · obtain ⟨i, rfl⟩ : ∃ i, j = i + 1 := ⟨j - 1, by omega⟩
      rw [xi_m1']
      rw [tm_rx] at h1 h0
      have b1 := cm_b hM hs i
      have b2 := cm_b hM hs (i + 1)
      have hn8 := hS.1
      have hnext : ¬ tm_rd (m s) i → wY_norm_21 post J (nI s) x2 (nI n) yq yg ya T L K bo bs be fa fr fe hr ft hyA vl ee wb f (-1) (nI i + (-1)) := by
        intro hno
        rw [if_neg hno] at h1 h0
        rw [← Int32.sub_eq_add_neg]
        exact ih i (by omega) (by omega) h1 h0
      have hfound : tm_rd (m s) i → wY_norm_21 post J (nI s) x2 (nI n) yq yg ya T L K bo bs be fa fr fe hr ft hyA vl ee wb f (nI i) (nI i + (-1)) := by
        intro hr2
        rw [if_pos hr2] at h1
        have h9 := h1 i rfl
        obtain ⟨f', rfl⟩ : ∃ f', f = f' + 1 := ⟨f - 1, by omega⟩
        rw [wY_norm_21]
        dsimp only
        exact br_c (fun _ => h9) (fun _ => br_t (nI_pos' (by omega)) h9)
      refine br_f (nI_pos (by omega)) (br_f (by decide) ?_)
      refine yp_c hM hs (by omega) ?_
      rw [nI_1]
      refine yp_c hM hs (by omega) ?_
      refine yp_fun hn8 (by omega) (fun f2 hf2 e => ?_) (fun hno => br_t (by decide) (nm_e (hnext (fun z => hno ⟨z.1.1, yi_fn hS hP (tm_at_mem (by omega)) z.1⟩))))
      have hfn : tm_fn (tm_at (m s) i) := by omega
      refine br_f (nI_pos (by omega)) ?_
      have kk : ∀ k, tm_kd (tm_at (m s) (i + 1)) = some k → tm_rd (m s) i := fun k z => ⟨hfn, by rw [z]; exact Option.some_ne_none k⟩
      refine pk_eq (tm_at (m s) (i + 1)) 90 (fun z => nm_e (hfound (kk 0 (by rw [z]; rfl)))) (fun z1 => pk_eq (tm_at (m s) (i + 1)) 83 (fun z => nm_e (hfound (kk 1 (by rw [z]; rfl)))) (fun z2 => pk_eq (tm_at (m s) (i + 1)) 78 (fun z => nm_e (hfound (kk 0 (by rw [z]; rfl)))) (fun z3 => pk_eq (tm_at (m s) (i + 1)) 67 (fun z => nm_e (hfound (kk 1 (by rw [z]; rfl)))) (fun z4 => nm_e (hnext (fun z => z.2 ?_))))))
      unfold tm_kd
      rw [if_neg (by omega), if_neg (by omega)]
theorem yl_norm {post : Int32 → SY → Prop} (hS : tm_SG n A Z) (hg : sg_Y n A Z fa fr fe) (hRU : tm_RU (tm_sg n A Z) R) (hH : yr_H R hr) {s : Nat} {S : List Nat} {o : Option (List Nat)} (hRm : ∀ i, i < 32 → m (1 + i) = R i) (hs : s < 84) (hs2 : 82 ≤ s)
    (h1 : ∀ w', o = some w' → ∀ T' L' bo' bs' be' m', cm_M 64 89 T' L' m' → m' s = w' → (∀ u, u ≠ s → u ≠ 81 → m' u = m u) → post 1 (nI n, yq, yg, ya, T', L', K, bo', bs', be', fa, fr, fe, hr, ft, hyA, vl, ee, wb))
    (h0 : o = none → ∀ T' L' bo' bs' be' m', cm_M 64 89 T' L' m' → (∀ u, u ≠ s → u ≠ 81 → m' u = m u) → post 0 (nI n, yq, yg, ya, T', L', K, bo', bs', be', fa, fr, fe, hr, ft, hyA, vl, ee, wb)) :
    ∀ f st T L bo bs be m', 128 < f + st → st ≤ 128 → cm_M 64 89 T L m' → (∀ u, u ≠ s → u ≠ 81 → m' u = m u) → (m' s).length ≤ 48 → tm_nz (tm_sg n A Z) R (128 - st) (m' s) = o → tm_P (tm_sg n A Z) S (m' s) → tm_FC R (m' s) → wY_norm_2 post (nI s) f (nI st) (nI n) yq yg ya T L K bo bs be fa fr fe hr ft hyA vl ee wb := by
  have hs89 : s < 89 := by omega
  intro f
  induction f with
  | zero => intro st T L bo bs be m' a b; omega
  | succ f ih =>
    intro st T L bo bs be m' ha hb hM hfr hl hnz hP hF
    rw [wY_norm_2]
    dsimp only
    refine br_f (nI_nlt (b := 128) (a := 128) (Nat.le_refl _) (by decide) |> fun _ => by rw [show (128 : Int32) = nI 128 from rfl, nI_ltI (by omega) (by omega)]; omega) ?_
    rw [nI_clamp (n := s) (by omega), cm_len hM hs89]
    refine ⟨vp_in_nI hs89 (by omega), nm_e ⟨(m' s).length + 2, ?_⟩⟩
    refine yl_21 hS hM hs89 hP _ (m' s).length (by omega) (Nat.le_refl _) (fun i hi => ?_) (fun hi => ?_)
    · unfold wY_norm_96
      obtain ⟨hil, hrd⟩ := tm_rx_lt _ _ hi
      obtain ⟨r, _, _, _, hP', hF'⟩ := tm_st_ok (tm_sg_GS hS) hRU hP hF hrd
      refine br_t (nI_pos' (by omega)) (pk_eq st 128 (fun e => ?_) (fun e => ?_))
      · subst e
        rw [Nat.sub_self, tm_nz_0 hi] at hnz
        exact h0 hnz.symm T L bo bs be m' hM hfr
      · rw [show 128 - st = (128 - (st + 1)) + 1 by omega, tm_nz_s hi] at hnz
        refine yp_rw hS hg hRU hH hM (fun j hj => by rw [hfr _ (by omega) (by omega)]; exact hRm j hj) hs hs2 hP hF hl hrd (fun hlen T1 L1 bo1 bs1 be1 m1 hM1 e1 f1 => ?_) (fun hlen T1 L1 bo1 bs1 be1 m1 hM1 f1 => ?_)
        · rw [if_pos hlen] at hnz
          refine br_f (by decide) (nm_r (nI_1 st) (ih (st + 1) T1 L1 bo1 bs1 be1 m1 (by omega) (by omega) hM1 (fun u u1 u2 => by rw [f1 u u1 u2, hfr u u1 u2]) ?_ ?_ ?_ ?_))
          · rw [e1]; exact hlen
          · rw [e1]; exact hnz
          · rw [e1]; exact hP'
          · rw [e1]; exact hF'
        · rw [if_neg (by omega)] at hnz
          exact br_t rfl (h0 hnz.symm T1 L1 bo1 bs1 be1 m1 hM1 (fun u u1 u2 => by rw [f1 u u1 u2, hfr u u1 u2]))
    · unfold wY_norm_96
      rw [tm_nz_no hi] at hnz
      exact br_f (by decide) (h1 _ hnz.symm T L bo bs be m' hM rfl hfr)
theorem yp_norm {post : Int32 → SY → Prop} (hS : tm_SG n A Z) (hg : sg_Y n A Z fa fr fe) (hRU : tm_RU (tm_sg n A Z) R) (hH : yr_H R hr) (hM : cm_M 64 89 T L m) {s : Nat} {S : List Nat} (hRm : ∀ i, i < 32 → m (1 + i) = R i) (hs : s < 84) (hs2 : 82 ≤ s) (hl : (m s).length ≤ 48) (hP : tm_P (tm_sg n A Z) S (m s)) (hF : tm_FC R (m s))
    (h1 : ∀ w', tm_N (tm_sg n A Z) R (m s) = some w' → ∀ T' L' bo' bs' be' m', cm_M 64 89 T' L' m' → m' s = w' → (∀ u, u ≠ s → u ≠ 81 → m' u = m u) → post 1 (nI n, yq, yg, ya, T', L', K, bo', bs', be', fa, fr, fe, hr, ft, hyA, vl, ee, wb))
    (h0 : tm_N (tm_sg n A Z) R (m s) = none → ∀ T' L' bo' bs' be' m', cm_M 64 89 T' L' m' → (∀ u, u ≠ s → u ≠ 81 → m' u = m u) → post 0 (nI n, yq, yg, ya, T', L', K, bo', bs', be', fa, fr, fe, hr, ft, hyA, vl, ee, wb)) : wpY_norm post (nI n, yq, yg, ya, T, L, K, bo, bs, be, fa, fr, fe, hr, ft, hyA, vl, ee, wb) (nI s) := by
  unfold wpY_norm
  dsimp only
  have e : tm_N (tm_sg n A Z) R (m s) = tm_nz (tm_sg n A Z) R 128 (m s) := if_pos hl
  rw [e] at h1 h0
  exact ⟨129, yl_norm (m := m) hS hg hRU hH hRm hs hs2 h1 h0 129 0 T L bo bs be m (by omega) (by omega) hM (fun _ _ _ => rfl) hl rfl hP hF⟩
theorem yp_top {post : Int32 → Prop} (h0 : 1 ≤ ng) (h : post (nI (49 + 4 * (ng - 1)))) : wpY_top post (yn, yq, nI ng, ya, T, L, K, bo, bs, be, fa, fr, fe, hr, ft, hyA, vl, ee, wb) := by
  unfold wpY_top
  dsimp only
  rw [xi_m1 h0, show (4 : Int32) * nI (ng - 1) = nI (4 * (ng - 1)) from pk_mul 4 _, show (49 : Int32) + nI (4 * (ng - 1)) = nI (49 + 4 * (ng - 1)) from nI_add 49 _]
  exact h
theorem yp_close {post : Int32 → SY → Prop} {k : Nat} (hk : k < 8) (hM : cm_M 64 89 T L m) (hg0 : 1 ≤ ng) (hg8 : ng ≤ 8)
    (h1 : m (49 + 4 * (ng - 1)) ≠ m (49 + 4 * (ng - 1) + 1) → post (nI ng) (yn, yq, nI ng, nI k, T, L, K, bo, bs, be, fa, fr, fe, hr, ft, hyA, vl, ee, wb)) (h2 : m (49 + 4 * (ng - 1)) = m (49 + 4 * (ng - 1) + 1) → ng = 1 → post 0 (yn, yq, 0, -1, T, L, K, bo, bs, be, fa, fr, fe, hr, upd ft k 3, hyA, vl, ee, wb)) (h3 : m (49 + 4 * (ng - 1)) = m (49 + 4 * (ng - 1) + 1) → 1 < ng → post (nI (ng - 1)) (yn, yq, nI (ng - 1), nI k, T, L, K, bo, bs, be, fa, fr, fe, hr, ft, hyA, vl, ee, wb)) : wpY_closeCheck post (yn, yq, nI ng, nI k, T, L, K, bo, bs, be, fa, fr, fe, hr, ft, hyA, vl, ee, wb) := by
  unfold wpY_closeCheck
  dsimp only
  refine yp_top hg0 ?_
  rw [nI_1]
  refine yp_eqs hM (by omega) (by omega) (fun e => br_f (by decide) ?_) (fun e => br_t rfl (h1 e))
  rw [xi_m1 hg0]
  refine nm_e (pk_eq (ng - 1) 0 (fun z => ?_) (fun z => h3 e (by omega)))
  rw [nI_clamp (n := k) (by omega), z]
  exact ⟨vp_in_nI hk (by omega), nm_e (h2 e (by omega))⟩
def yf_p (m : Nat → List Nat) (hyv : Bool) (s0 v : Nat) : Prop := tm_vc v ∈ m s0 ∨ tm_vc v ∈ m (s0 + 1) ∨ (hyv = true ∧ (tm_vc v ∈ m (s0 + 2) ∨ tm_vc v ∈ m (s0 + 3)))
theorem yl_71 {post : Int32 → Prop} {J : Int32 → Prop} {x1 z0 : Int32} {s0 v : Nat} {p : Prop} (hM : cm_M 64 89 T L m) (hs : s0 + 1 < 89) (hv : v < 16) (hz : (z0 = 0 ∧ ¬ p) ∨ (¬ z0 = 0 ∧ p)) (h1 : ¬ (tm_vc v ∈ m s0 ∨ tm_vc v ∈ m (s0 + 1) ∨ p) → post (nI v)) (h0 : tm_vc v ∈ m s0 ∨ tm_vc v ∈ m (s0 + 1) ∨ p → J (nI v + 1)) : wY_fresh_71 post J x1 (nI s0) (nI v) (nI (tm_vc v)) z0 yn yq yg ya T L K bo bs be fa fr fe hr ft hyA vl ee wb := by
  unfold wY_fresh_71
  have hc := tm_vc_lt hv
  refine yp_occ hM (by omega) (by omega) (fun a => br_f (by decide) (nm_e (h0 (Or.inl a)))) (fun a => br_t rfl ?_)
  rw [nI_1 s0]
  refine yp_occ hM (by omega) (by omega) (fun b => br_f (by decide) (nm_e (h0 (Or.inr (Or.inl b))))) (fun b => br_t rfl ?_)
  rcases hz with ⟨z, hn⟩ | ⟨z, hy⟩
  · exact br_t z (h1 (fun y => by
      rcases y with y | y | y
      · exact a y
      · exact b y
      · exact hn y))
  · exact br_f z (nm_e (h0 (Or.inr (Or.inr hy))))
theorem yl_fr {post : Int32 → Prop} {sv : Nat} {hyv : Bool} (hM : cm_M 64 89 T L m) (hg0 : 1 ≤ ng) (hg8 : ng ≤ 8) (hsv : sv < 2) (hh : hyA (ng - 1) = if hyv = true then 1 else 0) (h1 : ∀ v, fr_l (yf_p m hyv (49 + 4 * (ng - 1))) (8 * sv) v → post (nI v)) (h0 : (∀ v, 8 * sv ≤ v → v < 8 * sv + 8 → yf_p m hyv (49 + 4 * (ng - 1)) v) → post (-1)) :
    ∀ f v, 8 * sv + 8 < f + v → 8 * sv ≤ v → v ≤ 8 * sv + 8 → (∀ u, 8 * sv ≤ u → u < v → yf_p m hyv (49 + 4 * (ng - 1)) u) → wY_fresh_10 post (nI sv) (nI (49 + 4 * (ng - 1))) yn yq (nI ng) ya T L K bo bs be fa fr fe hr ft hyA vl ee wb f (nI v) := by
  intro f
  induction f with
  | zero => intro v a b c; omega
  | succ f ih =>
    intro v a b c hu
    rw [wY_fresh_10]
    dsimp only
    rw [show nI sv * 8 = nI (sv * 8) from pk_mul sv 8, show nI (sv * 8) + 8 = nI (sv * 8 + 8) from nI_add _ 8]
    refine pk_le (sv * 8 + 8) v (fun hge => h0 (fun u u1 u2 => hu u u1 (by omega))) (fun hlt => ?_)
    have hv16 : v < 16 := by omega
    have hc := tm_vc_lt hv16
    refine yp_vch hv16 ?_
    rw [xi_m1 hg0, nI_clamp (n := ng - 1) (by omega), hh]
    refine ⟨vp_in_nI (by omega) (by omega), ?_⟩
    have hJ : yf_p m hyv (49 + 4 * (ng - 1)) v → wY_fresh_10 post (nI sv) (nI (49 + 4 * (ng - 1))) yn yq (nI ng) ya T L K bo bs be fa fr fe hr ft hyA vl ee wb f (nI v + 1) := by
      intro hp
      rw [nI_1]
      refine ih (v + 1) (by omega) (by omega) (by omega) (fun u u1 u2 => ?_)
      by_cases e : u = v
      · rw [e]; exact hp
      · exact hu u u1 (by omega)
    have hP1 : ¬ yf_p m hyv (49 + 4 * (ng - 1)) v → post (nI v) := fun hp => h1 v ⟨b, by omega, hp, hu⟩
    cases hyv with
    | false =>
      refine br_t rfl ?_
      unfold wY_fresh_70
      exact yl_71 (p := false = true ∧ (tm_vc v ∈ m (49 + 4 * (ng - 1) + 2) ∨ tm_vc v ∈ m (49 + 4 * (ng - 1) + 3))) hM (by omega) hv16 (Or.inl ⟨rfl, fun z => nomatch z.1⟩) hP1 hJ
    | true =>
      refine br_f (by decide) ?_
      rw [show nI (49 + 4 * (ng - 1)) + 2 = nI (49 + 4 * (ng - 1) + 2) from nI_add _ 2, show nI (49 + 4 * (ng - 1)) + 3 = nI (49 + 4 * (ng - 1) + 3) from nI_add _ 3]
      unfold wY_fresh_70 wY_fresh_66
      refine yp_occ hM (by omega) (by omega) (fun z => br_f (by decide) ?_) (fun z => br_t rfl ?_)
      · exact yl_71 (p := true = true ∧ (tm_vc v ∈ m (49 + 4 * (ng - 1) + 2) ∨ tm_vc v ∈ m (49 + 4 * (ng - 1) + 3))) hM (by omega) hv16 (Or.inr ⟨by decide, rfl, Or.inl z⟩) hP1 hJ
      · refine yp_occ hM (by omega) (by omega) (fun z2 => br_f (by decide) ?_) (fun z2 => br_t rfl ?_)
        · exact yl_71 (p := true = true ∧ (tm_vc v ∈ m (49 + 4 * (ng - 1) + 2) ∨ tm_vc v ∈ m (49 + 4 * (ng - 1) + 3))) hM (by omega) hv16 (Or.inr ⟨by decide, rfl, Or.inr z2⟩) hP1 hJ
        · exact yl_71 (p := true = true ∧ (tm_vc v ∈ m (49 + 4 * (ng - 1) + 2) ∨ tm_vc v ∈ m (49 + 4 * (ng - 1) + 3))) hM (by omega) hv16 (Or.inl ⟨rfl, fun y => by
            rcases y.2 with y | y
            · exact z y
            · exact z2 y⟩) hP1 hJ
theorem yp_fresh {post : Int32 → Prop} {sv : Nat} {hyv : Bool} (hM : cm_M 64 89 T L m) (hg0 : 1 ≤ ng) (hg8 : ng ≤ 8) (hsv : sv < 2) (hh : hyA (ng - 1) = if hyv = true then 1 else 0) (h1 : ∀ v, fr_l (yf_p m hyv (49 + 4 * (ng - 1))) (8 * sv) v → post (nI v)) (h0 : (∀ v, 8 * sv ≤ v → v < 8 * sv + 8 → yf_p m hyv (49 + 4 * (ng - 1)) v) → post (-1)) : wpY_fresh post (yn, yq, nI ng, ya, T, L, K, bo, bs, be, fa, fr, fe, hr, ft, hyA, vl, ee, wb) (nI sv) := by
  unfold wpY_fresh
  dsimp only
  refine yp_top hg0 ?_
  refine nm_r (e' := nI (8 * sv)) (by rw [show nI sv * 8 = nI (sv * 8) from pk_mul sv 8, Nat.mul_comm]) ⟨9, yl_fr hM hg0 hg8 hsv hh h1 h0 9 (8 * sv) (by omega) (Nat.le_refl _) (by omega) (fun u a b => by omega)⟩
end YD
end
section
/-! 24: the reference: simp, and what useHyp and useLemma share (written by wip/whole/y5.py) -/
section YE
variable {yn yq yg ya : Int32} {T L K bo bs be fa fr fe hr ft hyA vl ee wb : Nat → Int32} {m : Nat → List Nat} {n ng : Nat} {A : Nat → List Nat} {Z : Nat → Nat} {R : Nat → List Nat}
set_option maxHeartbeats 200000 in
theorem yp_simp {post : Int32 → SY → Prop} {k s1 s2 : Nat} (hS : tm_SG n A Z) (hg : sg_Y n A Z fa fr fe) (hRU : tm_RU (tm_sg n A Z) R) (hH : yr_H R hr) (hM : cm_M 64 89 T L m) (hRm : ∀ i, i < 32 → m (1 + i) = R i) (hk : k < 8) (hg0 : 1 ≤ ng) (hg8 : ng ≤ 8) (w1 : tm_P (tm_sg n A Z) [s1] (m (49 + 4 * (ng - 1))) ∧ tm_FC R (m (49 + 4 * (ng - 1)))) (w2 : tm_P (tm_sg n A Z) [s2] (m (49 + 4 * (ng - 1) + 1)) ∧ tm_FC R (m (49 + 4 * (ng - 1) + 1))) (wl1 : (m (49 + 4 * (ng - 1))).length ≤ 48) (wl2 : (m (49 + 4 * (ng - 1) + 1)).length ≤ 48)
    (hL : tm_N (tm_sg n A Z) R (m (49 + 4 * (ng - 1))) = none ∨ tm_N (tm_sg n A Z) R (m (49 + 4 * (ng - 1) + 1)) = none → ∀ T' L' bo' bs' be' m', cm_M 64 89 T' L' m' → (∀ s, s < 81 → m' s = m s) → post (-7) (nI n, yq, nI ng, nI k, T', L', K, bo', bs', be', fa, fr, fe, hr, ft, hyA, vl, ee, wb))
    (hO : ∀ u v T' L' bo' bs' be' m', tm_N (tm_sg n A Z) R (m (49 + 4 * (ng - 1))) = some u → tm_N (tm_sg n A Z) R (m (49 + 4 * (ng - 1) + 1)) = some v → cm_M 64 89 T' L' m' → m' (49 + 4 * (ng - 1)) = u → m' (49 + 4 * (ng - 1) + 1) = v → (∀ s, s < 81 → s ≠ 49 + 4 * (ng - 1) → s ≠ 49 + 4 * (ng - 1) + 1 → m' s = m s) →
      (u ≠ v → post (nI ng) (nI n, yq, nI ng, nI k, T', L', K, bo', bs', be', fa, fr, fe, hr, ft, hyA, vl, ee, wb)) ∧ (u = v → ng = 1 → post 0 (nI n, yq, 0, -1, T', L', K, bo', bs', be', fa, fr, fe, hr, upd ft k 3, hyA, vl, ee, wb)) ∧ (u = v → 1 < ng → post (nI (ng - 1)) (nI n, yq, nI (ng - 1), nI k, T', L', K, bo', bs', be', fa, fr, fe, hr, ft, hyA, vl, ee, wb))) : wpY_simp post (nI n, yq, nI ng, nI k, T, L, K, bo, bs, be, fa, fr, fe, hr, ft, hyA, vl, ee, wb) := by
  unfold wpY_simp
  dsimp only
  refine br_t (nI_pos' (by omega)) ?_
  refine yp_top hg0 ?_
  refine yp_copy (d := 82) hM (by omega) (by omega) (by omega) (fun T1 L1 hM1 => ?_)
  rw [nI_1]
  refine yp_copy (d := 83) hM1 (by omega) (by omega) (by omega) (fun T2 L2 hM2 => ?_)
  rw [cm_set_n (m := m) (j := 49 + 4 * (ng - 1) + 1) (by omega)] at hM2
  generalize hm2 : cm_set (cm_set m 82 (m (49 + 4 * (ng - 1)))) 83 (m (49 + 4 * (ng - 1) + 1)) = m2 at hM2
  have d82 : m2 82 = m (49 + 4 * (ng - 1)) := by rw [← hm2, cm_set_n (by omega), cm_set_s]
  have d83 : m2 83 = m (49 + 4 * (ng - 1) + 1) := by rw [← hm2, cm_set_s]
  have hf2 : ∀ s, s < 81 → m2 s = m s := fun s a => by rw [← hm2, cm_set_n (by omega), cm_set_n (by omega)]
  try dsimp only
  refine yp_norm (s := 82) (S := [s1]) hS hg hRU hH hM2 (fun i hi => by rw [hf2 _ (by omega)]; exact hRm i hi) (by omega) (by omega) (by rw [d82]; exact wl1) (by rw [d82]; exact w1.1) (by rw [d82]; exact w1.2) ?_ ?_
  · rw [d82]
    intro u hu T3 L3 bo3 bs3 be3 m3 hM3 e3 f3
    refine br_f (by decide) ?_
    have d3 : m3 83 = (m (49 + 4 * (ng - 1) + 1)) := by rw [f3 83 (by omega) (by omega), d83]
    try dsimp only
    refine yp_norm (s := 83) (S := [s2]) hS hg hRU hH hM3 (fun i hi => by rw [f3 _ (by omega) (by omega), hf2 _ (by omega)]; exact hRm i hi) (by omega) (by omega) (by rw [d3]; exact wl2) (by rw [d3]; exact w2.1) (by rw [d3]; exact w2.2) ?_ ?_
    · rw [d3]
      intro v hv T4 L4 bo4 bs4 be4 m4 hM4 e4 f4
      refine br_f (by decide) ?_
      try dsimp only
      refine yp_copy (s := 82) hM4 (by omega) (by omega) (by omega) (fun T5 L5 hM5 => ?_)
      rw [f4 82 (by omega) (by omega), e3] at hM5
      try dsimp only
      refine yp_copy (s := 83) hM5 (by omega) (by omega) (by omega) (fun T6 L6 hM6 => ?_)
      rw [cm_set_n (j := 83) (by omega), e4] at hM6
      have q0 : cm_set (cm_set m4 (49 + 4 * (ng - 1)) u) (49 + 4 * (ng - 1) + 1) v (49 + 4 * (ng - 1)) = u := by rw [cm_set_n (by omega), cm_set_s]
      have q1 : cm_set (cm_set m4 (49 + 4 * (ng - 1)) u) (49 + 4 * (ng - 1) + 1) v (49 + 4 * (ng - 1) + 1) = v := cm_set_s
      obtain ⟨o1, o2, o3⟩ := hO u v T6 L6 bo4 bs4 be4 _ hu hv hM6 q0 q1 (fun s a b c => by rw [cm_set_n c, cm_set_n b, f4 s (by omega) (by omega), f3 s (by omega) (by omega), hf2 s a])
      try dsimp only
      refine yp_close hk hM6 hg0 hg8 ?_ ?_ ?_
      · rw [q0, q1]
        exact o1
      · rw [q0, q1]
        exact o2
      · rw [q0, q1]
        exact o3
    · rw [d3]
      intro hv T4 L4 bo4 bs4 be4 m4 hM4 f4
      try dsimp only
      exact br_t rfl (hL (Or.inr hv) T4 L4 bo4 bs4 be4 m4 hM4 (fun s a => by rw [f4 s (by omega) (by omega), f3 s (by omega) (by omega), hf2 s a]))
  · rw [d82]
    intro hu T3 L3 bo3 bs3 be3 m3 hM3 f3
    try dsimp only
    exact br_t rfl (hL (Or.inl hu) T3 L3 bo3 bs3 be3 m3 hM3 (fun s a => by rw [f3 s (by omega) (by omega), hf2 s a]))
set_option maxHeartbeats 200000 in
theorem yp_fin {post : Int32 → SY → Prop} {k s1 s2 sf f p : Nat} {pat : Bool} {fx : Int32} (hS : tm_SG n A Z) (hg : sg_Y n A Z fa fr fe) (hRU : tm_RU (tm_sg n A Z) R) (hH : yr_H R hr) (hM : cm_M 64 89 T L m) (hRm : ∀ i, i < 32 → m (1 + i) = R i) (hk : k < 8) (hg0 : 1 ≤ ng) (hg8 : ng ≤ 8) (w1 : tm_P (tm_sg n A Z) [s1] (m (49 + 4 * (ng - 1))) ∧ tm_FC R (m (49 + 4 * (ng - 1)))) (w2 : tm_P (tm_sg n A Z) [s2] (m (49 + 4 * (ng - 1) + 1)) ∧ tm_FC R (m (49 + 4 * (ng - 1) + 1))) (wl1 : (m (49 + 4 * (ng - 1))).length ≤ 48) (wl2 : (m (49 + 4 * (ng - 1) + 1)).length ≤ 48) (hf : f < 81) (hp : p < 81) (pf : tm_P (tm_sg n A Z) [sf] (m f)) (pp : tm_P (tm_sg n A Z) [sf] (m p)) (fp : tm_FC R (m p)) (hpx : (pat = true ∧ fx = 0) ∨ (pat = false ∧ ¬ fx = 0)) (hh : pat = false ∨ ¬ ((m f).length = 1 ∧ tm_vn (tm_at (m f) 0) ≠ none))
    (hN : (tm_R (tm_sg n A Z) pat (m (49 + 4 * (ng - 1))) (m f) (m p) 0).1 + (tm_R (tm_sg n A Z) pat (m (49 + 4 * (ng - 1) + 1)) (m f) (m p) 0).1 = 0 → ∀ T' L' bo' bs' be' m', cm_M 64 89 T' L' m' → (∀ s, s < 81 → m' s = m s) → post (-8) (nI n, yq, nI ng, nI k, T', L', K, bo', bs', be', fa, fr, fe, hr, ft, hyA, vl, ee, wb))
    (hL : (tm_R (tm_sg n A Z) pat (m (49 + 4 * (ng - 1))) (m f) (m p) 0).1 + (tm_R (tm_sg n A Z) pat (m (49 + 4 * (ng - 1) + 1)) (m f) (m p) 0).1 ≠ 0 → tm_N (tm_sg n A Z) R (tm_R (tm_sg n A Z) pat (m (49 + 4 * (ng - 1))) (m f) (m p) 0).2 = none ∨ tm_N (tm_sg n A Z) R (tm_R (tm_sg n A Z) pat (m (49 + 4 * (ng - 1) + 1)) (m f) (m p) 0).2 = none → ∀ T' L' bo' bs' be' m', cm_M 64 89 T' L' m' → (∀ s, s < 81 → m' s = m s) → post (-7) (nI n, yq, nI ng, nI k, T', L', K, bo', bs', be', fa, fr, fe, hr, ft, hyA, vl, ee, wb))
    (hO : (tm_R (tm_sg n A Z) pat (m (49 + 4 * (ng - 1))) (m f) (m p) 0).1 + (tm_R (tm_sg n A Z) pat (m (49 + 4 * (ng - 1) + 1)) (m f) (m p) 0).1 ≠ 0 → ∀ u v T' L' bo' bs' be' m', tm_N (tm_sg n A Z) R (tm_R (tm_sg n A Z) pat (m (49 + 4 * (ng - 1))) (m f) (m p) 0).2 = some u → tm_N (tm_sg n A Z) R (tm_R (tm_sg n A Z) pat (m (49 + 4 * (ng - 1) + 1)) (m f) (m p) 0).2 = some v → cm_M 64 89 T' L' m' → m' (49 + 4 * (ng - 1)) = u → m' (49 + 4 * (ng - 1) + 1) = v → (∀ s, s < 81 → s ≠ 49 + 4 * (ng - 1) → s ≠ 49 + 4 * (ng - 1) + 1 → m' s = m s) →
      (u ≠ v → post (nI ng) (nI n, yq, nI ng, nI k, T', L', K, bo', bs', be', fa, fr, fe, hr, ft, hyA, vl, ee, wb)) ∧ (u = v → ng = 1 → post 0 (nI n, yq, 0, -1, T', L', K, bo', bs', be', fa, fr, fe, hr, upd ft k 3, hyA, vl, ee, wb)) ∧ (u = v → 1 < ng → post (nI (ng - 1)) (nI n, yq, nI (ng - 1), nI k, T', L', K, bo', bs', be', fa, fr, fe, hr, ft, hyA, vl, ee, wb))) : wpY_finish post (nI n, yq, nI ng, nI k, T, L, K, bo, bs, be, fa, fr, fe, hr, ft, hyA, vl, ee, wb) (nI f) (nI p) fx := by
  unfold wpY_finish
  dsimp only
  have hV := (tm_sg_GS hS).1
  refine yp_top hg0 ?_
  refine yp_repl (t := 82) (pat := pat) hS hg hM (by omega) (by omega) (by omega) (by omega) (by omega) (by omega) (by omega) w1.1 pf hpx wl1 (fun T1 L1 bo1 bs1 be1 hM1 => ?_)
  rw [nI_1]
  have j1 : cm_set m 82 ((tm_R (tm_sg n A Z) pat (m (49 + 4 * (ng - 1))) (m f) (m p) 0).2.take 64) (49 + 4 * (ng - 1) + 1) = m (49 + 4 * (ng - 1) + 1) := cm_set_n (by omega)
  have j2 : cm_set m 82 ((tm_R (tm_sg n A Z) pat (m (49 + 4 * (ng - 1))) (m f) (m p) 0).2.take 64) f = m f := cm_set_n (by omega)
  have j3 : cm_set m 82 ((tm_R (tm_sg n A Z) pat (m (49 + 4 * (ng - 1))) (m f) (m p) 0).2.take 64) p = m p := cm_set_n (by omega)
  refine yp_repl (t := 83) (pat := pat) hS hg hM1 (by omega) (by omega) (by omega) (by omega) (by omega) (by omega) (by omega) (by rw [j1]; exact w2.1) (by rw [j2]; exact pf) hpx (by rw [j1]; exact wl2) (fun T2 L2 bo2 bs2 be2 hM2 => ?_)
  rw [j1, j2, j3] at hM2 ⊢
  have c1 := tm_R_cnt (g := tm_sg n A Z) (pat := pat) (w := m (49 + 4 * (ng - 1))) (fr := m f) (to := m p) _ 0 (Nat.le_refl _)
  have c2 := tm_R_cnt (g := tm_sg n A Z) (pat := pat) (w := m (49 + 4 * (ng - 1) + 1)) (fr := m f) (to := m p) _ 0 (Nat.le_refl _)
  have c1 := Nat.le_trans c1 (show _ ≤ 48 by omega)
  have c2 := Nat.le_trans c2 (show _ ≤ 48 by omega)
  have x1 := iv_Rok hV w1.1 w1.2 pf pp fp hh
  have x2 := iv_Rok hV w2.1 w2.2 pf pp fp hh
  clear w1 w2 wl1 wl2
  generalize hl9 : (tm_R (tm_sg n A Z) pat (m (49 + 4 * (ng - 1))) (m f) (m p) 0) = l9 at *
  generalize hr9 : (tm_R (tm_sg n A Z) pat (m (49 + 4 * (ng - 1) + 1)) (m f) (m p) 0) = r9 at *
  generalize hm2 : cm_set (cm_set m 82 (l9.2.take 64)) 83 (r9.2.take 64) = m2 at hM2
  have d82 : m2 82 = l9.2.take 64 := by rw [← hm2, cm_set_n (by omega), cm_set_s]
  have d83 : m2 83 = r9.2.take 64 := by rw [← hm2, cm_set_s]
  have hf2 : ∀ s, s < 81 → m2 s = m s := fun s a => by rw [← hm2, cm_set_n (by omega), cm_set_n (by omega)]
  have l82 := cm_len hM2 (s := 82) (by omega)
  have l83 := cm_len hM2 (s := 83) (by omega)
  rw [d82, List.length_take] at l82
  rw [d83, List.length_take] at l83
  rw [nI_add]
  refine nm_e (pk_eq (l9.1 + r9.1) 0 (fun z => hN z T2 L2 bo2 bs2 be2 m2 hM2 hf2) (fun z => ?_))
  have hL := hL z
  have hO := hO z
  dsimp only
  rw [l82, l83]
  have hLN : 48 < l9.2.length ∨ 48 < r9.2.length → post (-7) (nI n, yq, nI ng, nI k, T2, L2, K, bo2, bs2, be2, fa, fr, fe, hr, ft, hyA, vl, ee, wb) := by
    intro h
    refine hL ?_ T2 L2 bo2 bs2 be2 m2 hM2 hf2
    rcases h with h | h
    · exact Or.inl (if_neg (by omega))
    · exact Or.inr (if_neg (by omega))
  refine pk_lt 48 (min 64 l9.2.length) (fun y => hLN (Or.inl (by omega))) (fun y1 => pk_le (min 64 r9.2.length) 48 (fun y2 => ?_) (fun y => hLN (Or.inr (by omega))))
  rw [cm_tl (by omega)] at d82 d83
  have w1 := x1
  have w2 := x2
  have wl1 : l9.2.length ≤ 48 := by omega
  have wl2 : r9.2.length ≤ 48 := by omega
  try dsimp only
  refine yp_norm (s := 82) (S := [s1]) hS hg hRU hH hM2 (fun i hi => by rw [hf2 _ (by omega)]; exact hRm i hi) (by omega) (by omega) (by rw [d82]; exact wl1) (by rw [d82]; exact w1.1) (by rw [d82]; exact w1.2) ?_ ?_
  · rw [d82]
    intro u hu T3 L3 bo3 bs3 be3 m3 hM3 e3 f3
    refine br_f (by decide) ?_
    have d3 : m3 83 = r9.2 := by rw [f3 83 (by omega) (by omega), d83]
    try dsimp only
    refine yp_norm (s := 83) (S := [s2]) hS hg hRU hH hM3 (fun i hi => by rw [f3 _ (by omega) (by omega), hf2 _ (by omega)]; exact hRm i hi) (by omega) (by omega) (by rw [d3]; exact wl2) (by rw [d3]; exact w2.1) (by rw [d3]; exact w2.2) ?_ ?_
    · rw [d3]
      intro v hv T4 L4 bo4 bs4 be4 m4 hM4 e4 f4
      refine br_f (by decide) ?_
      try dsimp only
      refine yp_copy (s := 82) hM4 (by omega) (by omega) (by omega) (fun T5 L5 hM5 => ?_)
      rw [f4 82 (by omega) (by omega), e3] at hM5
      try dsimp only
      refine yp_copy (s := 83) hM5 (by omega) (by omega) (by omega) (fun T6 L6 hM6 => ?_)
      rw [cm_set_n (j := 83) (by omega), e4] at hM6
      have q0 : cm_set (cm_set m4 (49 + 4 * (ng - 1)) u) (49 + 4 * (ng - 1) + 1) v (49 + 4 * (ng - 1)) = u := by rw [cm_set_n (by omega), cm_set_s]
      have q1 : cm_set (cm_set m4 (49 + 4 * (ng - 1)) u) (49 + 4 * (ng - 1) + 1) v (49 + 4 * (ng - 1) + 1) = v := cm_set_s
      obtain ⟨o1, o2, o3⟩ := hO u v T6 L6 bo4 bs4 be4 _ hu hv hM6 q0 q1 (fun s a b c => by rw [cm_set_n c, cm_set_n b, f4 s (by omega) (by omega), f3 s (by omega) (by omega), hf2 s a])
      try dsimp only
      refine yp_close hk hM6 hg0 hg8 ?_ ?_ ?_
      · rw [q0, q1]
        exact o1
      · rw [q0, q1]
        exact o2
      · rw [q0, q1]
        exact o3
    · rw [d3]
      intro hv T4 L4 bo4 bs4 be4 m4 hM4 f4
      try dsimp only
      exact br_t rfl (hL (Or.inr hv) T4 L4 bo4 bs4 be4 m4 hM4 (fun s a => by rw [f4 s (by omega) (by omega), f3 s (by omega) (by omega), hf2 s a]))
  · rw [d82]
    intro hu T3 L3 bo3 bs3 be3 m3 hM3 f3
    try dsimp only
    exact br_t rfl (hL (Or.inl hu) T3 L3 bo3 bs3 be3 m3 hM3 (fun s a => by rw [f3 s (by omega) (by omega), hf2 s a]))
end YE
end
section
/-! 25: the reference: useHyp, useLemma, defineRule -/
section YF
variable {yn yq yg ya : Int32} {T L K bo bs be fa fr fe hr ft hyA vl ee wb : Nat → Int32} {m : Nat → List Nat} {n ng : Nat} {A : Nat → List Nat} {Z : Nat → Nat} {R : Nat → List Nat}
set_option maxHeartbeats 200000 in
theorem yp_useHyp {post : Int32 → SY → Prop} {k s1 s2 f p : Nat} {x1 : Int32} {hyv : Bool} (hS : tm_SG n A Z) (hg : sg_Y n A Z fa fr fe) (hRU : tm_RU (tm_sg n A Z) R) (hH : yr_H R hr) (hM : cm_M 64 89 T L m) (hRm : ∀ i, i < 32 → m (1 + i) = R i) (hk : k < 8) (hg0 : 1 ≤ ng) (hg8 : ng ≤ 8) (w1 : tm_P (tm_sg n A Z) [s1] (m (49 + 4 * (ng - 1))) ∧ tm_FC R (m (49 + 4 * (ng - 1)))) (w2 : tm_P (tm_sg n A Z) [s2] (m (49 + 4 * (ng - 1) + 1)) ∧ tm_FC R (m (49 + 4 * (ng - 1) + 1))) (wl1 : (m (49 + 4 * (ng - 1))).length ≤ 48) (wl2 : (m (49 + 4 * (ng - 1) + 1)).length ≤ 48) (hh : hyA (ng - 1) = if hyv = true then 1 else 0) (hyt : hyv = true → ∃ sf, tm_P (tm_sg n A Z) [sf] (m f) ∧ tm_P (tm_sg n A Z) [sf] (m p) ∧ tm_FC R (m p)) (hfp : (f = 49 + 4 * (ng - 1) + 2 ∧ p = 49 + 4 * (ng - 1) + 3 ∧ x1 = 0) ∨ (f = 49 + 4 * (ng - 1) + 3 ∧ p = 49 + 4 * (ng - 1) + 2 ∧ x1 = 1))
    (hNH : hyv = false → post (-5) (nI n, yq, nI ng, nI k, T, L, K, bo, bs, be, fa, fr, fe, hr, ft, hyA, vl, ee, wb))
    (hN : hyv = true → (tm_R (tm_sg n A Z) false (m (49 + 4 * (ng - 1))) (m f) (m p) 0).1 + (tm_R (tm_sg n A Z) false (m (49 + 4 * (ng - 1) + 1)) (m f) (m p) 0).1 = 0 → ∀ T' L' bo' bs' be' m', cm_M 64 89 T' L' m' → (∀ s, s < 81 → m' s = m s) → post (-8) (nI n, yq, nI ng, nI k, T', L', K, bo', bs', be', fa, fr, fe, hr, ft, hyA, vl, ee, wb))
    (hL : hyv = true → (tm_R (tm_sg n A Z) false (m (49 + 4 * (ng - 1))) (m f) (m p) 0).1 + (tm_R (tm_sg n A Z) false (m (49 + 4 * (ng - 1) + 1)) (m f) (m p) 0).1 ≠ 0 → tm_N (tm_sg n A Z) R (tm_R (tm_sg n A Z) false (m (49 + 4 * (ng - 1))) (m f) (m p) 0).2 = none ∨ tm_N (tm_sg n A Z) R (tm_R (tm_sg n A Z) false (m (49 + 4 * (ng - 1) + 1)) (m f) (m p) 0).2 = none → ∀ T' L' bo' bs' be' m', cm_M 64 89 T' L' m' → (∀ s, s < 81 → m' s = m s) → post (-7) (nI n, yq, nI ng, nI k, T', L', K, bo', bs', be', fa, fr, fe, hr, ft, hyA, vl, ee, wb))
    (hO : hyv = true → (tm_R (tm_sg n A Z) false (m (49 + 4 * (ng - 1))) (m f) (m p) 0).1 + (tm_R (tm_sg n A Z) false (m (49 + 4 * (ng - 1) + 1)) (m f) (m p) 0).1 ≠ 0 → ∀ u v T' L' bo' bs' be' m', tm_N (tm_sg n A Z) R (tm_R (tm_sg n A Z) false (m (49 + 4 * (ng - 1))) (m f) (m p) 0).2 = some u → tm_N (tm_sg n A Z) R (tm_R (tm_sg n A Z) false (m (49 + 4 * (ng - 1) + 1)) (m f) (m p) 0).2 = some v → cm_M 64 89 T' L' m' → m' (49 + 4 * (ng - 1)) = u → m' (49 + 4 * (ng - 1) + 1) = v → (∀ s, s < 81 → s ≠ 49 + 4 * (ng - 1) → s ≠ 49 + 4 * (ng - 1) + 1 → m' s = m s) →
      (u ≠ v → post (nI ng) (nI n, yq, nI ng, nI k, T', L', K, bo', bs', be', fa, fr, fe, hr, ft, hyA, vl, ee, wb)) ∧ (u = v → ng = 1 → post 0 (nI n, yq, 0, -1, T', L', K, bo', bs', be', fa, fr, fe, hr, upd ft k 3, hyA, vl, ee, wb)) ∧ (u = v → 1 < ng → post (nI (ng - 1)) (nI n, yq, nI (ng - 1), nI k, T', L', K, bo', bs', be', fa, fr, fe, hr, ft, hyA, vl, ee, wb))) : wY_useHyp_22 post x1 (nI n) yq (nI ng) (nI k) T L K bo bs be fa fr fe hr ft hyA vl ee wb := by
  unfold wY_useHyp_22
  refine yp_top hg0 ?_
  rw [xi_m1 hg0, nI_clamp (n := ng - 1) (by omega), hh]
  refine ⟨vp_in_nI (by omega) (by omega), ?_⟩
  cases hyv with
  | false => exact br_t rfl (hNH rfl)
  | true =>
    refine br_f (by decide) ?_
    have ef : nI (49 + 4 * (ng - 1)) + 2 + x1 = nI f := by
      rw [show nI (49 + 4 * (ng - 1)) + 2 = nI (49 + 4 * (ng - 1) + 2) from nI_add _ 2]
      rcases hfp with ⟨rfl, rfl, rfl⟩ | ⟨rfl, rfl, rfl⟩
      · exact nI_add _ 0
      · exact nI_1 _
    have ep : nI (49 + 4 * (ng - 1)) + 3 - x1 = nI p := by
      rw [show nI (49 + 4 * (ng - 1)) + 3 = nI (49 + 4 * (ng - 1) + 3) from nI_add _ 3]
      rcases hfp with ⟨rfl, rfl, rfl⟩ | ⟨rfl, rfl, rfl⟩
      · exact pk_sub (b := 0) (by omega)
      · exact pk_sub (b := 1) (by omega)
    rw [ef, ep]
    obtain ⟨sf, pf, pp, fp⟩ := hyt rfl
    exact yp_fin (pat := false) hS hg hRU hH hM hRm hk hg0 hg8 w1 w2 wl1 wl2 (by omega) (by omega) pf pp fp (Or.inr ⟨rfl, by decide⟩) (Or.inl rfl) (hN rfl) (hL rfl) (hO rfl)
set_option maxHeartbeats 200000 in
theorem yl_99 {post : Int32 → SY → Prop} {f p : Nat} (hM : cm_M 64 89 T L m) (hf : f < 89) (hp : p < 89) (hend : (∀ v, v < 16 → tm_vc v ∈ m p → tm_vc v ∈ m f) → wpY_finish (fun r u => post r u) (yn, yq, yg, ya, T, L, K, bo, bs, be, fa, fr, fe, hr, ft, hyA, vl, ee, wb) (nI f) (nI p) 0) (hF : ¬ (∀ v, v < 16 → tm_vc v ∈ m p → tm_vc v ∈ m f) → post (-2) (yn, yq, yg, ya, T, L, K, bo, bs, be, fa, fr, fe, hr, ft, hyA, vl, ee, wb)) :
    ∀ c i, (m p).length - i < c → i ≤ (m p).length → (∀ j, j < i → ∀ v, tm_vn (tm_at (m p) j) = some v → tm_at (m p) j ∈ m f) → wY_useLemma_99 post (nI f) (nI p) yn yq yg ya T L K bo bs be fa fr fe hr ft hyA vl ee wb c (nI i) := by
  have hle := cm_le hM hp
  intro c
  induction c with
  | zero => intro i a; omega
  | succ c ih =>
    intro i a b hj
    rw [wY_useLemma_99]
    dsimp only
    rw [nI_clamp (n := p) (by omega), cm_len hM hp]
    refine ⟨vp_in_nI hp (by omega), pk_le (m p).length i (fun hge => ?_) (fun hlt => ?_)⟩
    · refine hend (fun v hv hm => ?_)
      obtain ⟨j, hj1, hj2⟩ := tm_mem_at hm
      have := hj j (by omega) v (by rw [hj2]; exact tm_vn_vc hv)
      rw [hj2] at this
      exact this
    · have hbb := cm_b hM hp i
      have hnext : (∀ v, tm_vn (tm_at (m p) i) = some v → tm_at (m p) i ∈ m f) → wY_useLemma_99 post (nI f) (nI p) yn yq yg ya T L K bo bs be fa fr fe hr ft hyA vl ee wb c (nI i + 1) := by
        intro h
        rw [nI_1]
        refine ih (i + 1) (by omega) (by omega) (fun j hj2 => ?_)
        by_cases e : j = i
        · rw [e]; exact h
        · exact hj j (by omega)
      refine yp_c hM hp (by omega) ?_
      refine yp_vnum (by omega) (fun v hv hv16 => br_f (nI_pos (by omega)) ?_) (fun hv => br_t (by decide) (nm_e (hnext (fun v z => by rw [hv] at z; cases z))))
      refine yp_occ hM hf (by omega) (fun z => br_f (by decide) (nm_e (hnext (fun _ _ => z)))) (fun z => br_t rfl (hF (fun y => z ?_)))
      have hc := (tm_vn_ch hv).1
      rw [hc]
      apply y v hv16
      rw [← hc]
      exact tm_at_mem hlt
set_option maxHeartbeats 200000 in
theorem yp_useLem {post : Int32 → SY → Prop} {k s1 s2 sf kk f p : Nat} {x2 : Int32} (hS : tm_SG n A Z) (hg : sg_Y n A Z fa fr fe) (hRU : tm_RU (tm_sg n A Z) R) (hH : yr_H R hr) (hM : cm_M 64 89 T L m) (hRm : ∀ i, i < 32 → m (1 + i) = R i) (hk : k < 8) (hg0 : 1 ≤ ng) (hg8 : ng ≤ 8) (w1 : tm_P (tm_sg n A Z) [s1] (m (49 + 4 * (ng - 1))) ∧ tm_FC R (m (49 + 4 * (ng - 1)))) (w2 : tm_P (tm_sg n A Z) [s2] (m (49 + 4 * (ng - 1) + 1)) ∧ tm_FC R (m (49 + 4 * (ng - 1) + 1))) (wl1 : (m (49 + 4 * (ng - 1))).length ≤ 48) (wl2 : (m (49 + 4 * (ng - 1) + 1)).length ≤ 48) (hkk : kk < 8) (pf : tm_P (tm_sg n A Z) [sf] (m f)) (pp : tm_P (tm_sg n A Z) [sf] (m p)) (fp : tm_FC R (m p)) (hfp : (f = 33 + 2 * kk ∧ p = 33 + 2 * kk + 1 ∧ x2 = 0) ∨ (f = 33 + 2 * kk + 1 ∧ p = 33 + 2 * kk ∧ x2 = 1))
    (hF : ((m f).length = 1 ∧ tm_vn (tm_at (m f) 0) ≠ none) ∨ ¬ (∀ v, v < 16 → tm_vc v ∈ m p → tm_vc v ∈ m f) → post (-2) (nI n, yq, nI ng, nI k, T, L, K, bo, bs, be, fa, fr, fe, hr, ft, hyA, vl, ee, wb))
    (hN : ¬ ((m f).length = 1 ∧ tm_vn (tm_at (m f) 0) ≠ none) → (∀ v, v < 16 → tm_vc v ∈ m p → tm_vc v ∈ m f) → (tm_R (tm_sg n A Z) true (m (49 + 4 * (ng - 1))) (m f) (m p) 0).1 + (tm_R (tm_sg n A Z) true (m (49 + 4 * (ng - 1) + 1)) (m f) (m p) 0).1 = 0 → ∀ T' L' bo' bs' be' m', cm_M 64 89 T' L' m' → (∀ s, s < 81 → m' s = m s) → post (-8) (nI n, yq, nI ng, nI k, T', L', K, bo', bs', be', fa, fr, fe, hr, ft, hyA, vl, ee, wb))
    (hL : ¬ ((m f).length = 1 ∧ tm_vn (tm_at (m f) 0) ≠ none) → (∀ v, v < 16 → tm_vc v ∈ m p → tm_vc v ∈ m f) → (tm_R (tm_sg n A Z) true (m (49 + 4 * (ng - 1))) (m f) (m p) 0).1 + (tm_R (tm_sg n A Z) true (m (49 + 4 * (ng - 1) + 1)) (m f) (m p) 0).1 ≠ 0 → tm_N (tm_sg n A Z) R (tm_R (tm_sg n A Z) true (m (49 + 4 * (ng - 1))) (m f) (m p) 0).2 = none ∨ tm_N (tm_sg n A Z) R (tm_R (tm_sg n A Z) true (m (49 + 4 * (ng - 1) + 1)) (m f) (m p) 0).2 = none → ∀ T' L' bo' bs' be' m', cm_M 64 89 T' L' m' → (∀ s, s < 81 → m' s = m s) → post (-7) (nI n, yq, nI ng, nI k, T', L', K, bo', bs', be', fa, fr, fe, hr, ft, hyA, vl, ee, wb))
    (hO : ¬ ((m f).length = 1 ∧ tm_vn (tm_at (m f) 0) ≠ none) → (∀ v, v < 16 → tm_vc v ∈ m p → tm_vc v ∈ m f) → (tm_R (tm_sg n A Z) true (m (49 + 4 * (ng - 1))) (m f) (m p) 0).1 + (tm_R (tm_sg n A Z) true (m (49 + 4 * (ng - 1) + 1)) (m f) (m p) 0).1 ≠ 0 → ∀ u v T' L' bo' bs' be' m', tm_N (tm_sg n A Z) R (tm_R (tm_sg n A Z) true (m (49 + 4 * (ng - 1))) (m f) (m p) 0).2 = some u → tm_N (tm_sg n A Z) R (tm_R (tm_sg n A Z) true (m (49 + 4 * (ng - 1) + 1)) (m f) (m p) 0).2 = some v → cm_M 64 89 T' L' m' → m' (49 + 4 * (ng - 1)) = u → m' (49 + 4 * (ng - 1) + 1) = v → (∀ s, s < 81 → s ≠ 49 + 4 * (ng - 1) → s ≠ 49 + 4 * (ng - 1) + 1 → m' s = m s) →
      (u ≠ v → post (nI ng) (nI n, yq, nI ng, nI k, T', L', K, bo', bs', be', fa, fr, fe, hr, ft, hyA, vl, ee, wb)) ∧ (u = v → ng = 1 → post 0 (nI n, yq, 0, -1, T', L', K, bo', bs', be', fa, fr, fe, hr, upd ft k 3, hyA, vl, ee, wb)) ∧ (u = v → 1 < ng → post (nI (ng - 1)) (nI n, yq, nI (ng - 1), nI k, T', L', K, bo', bs', be', fa, fr, fe, hr, ft, hyA, vl, ee, wb))) : wY_useLemma_45 post (nI kk) x2 (nI n) yq (nI ng) (nI k) T L K bo bs be fa fr fe hr ft hyA vl ee wb := by
  unfold wY_useLemma_45
  rw [show (2 : Int32) * nI kk = nI (2 * kk) from pk_mul 2 kk, show (33 : Int32) + nI (2 * kk) = nI (33 + 2 * kk) from nI_add 33 _]
  have ef : nI (33 + 2 * kk) + x2 = nI f := by
    rcases hfp with ⟨rfl, rfl, rfl⟩ | ⟨rfl, rfl, rfl⟩
    · exact nI_add _ 0
    · exact nI_1 _
  have ep : nI (33 + 2 * kk) + 1 - x2 = nI p := by
    rw [nI_1]
    rcases hfp with ⟨rfl, rfl, rfl⟩ | ⟨rfl, rfl, rfl⟩
    · exact pk_sub (b := 0) (by omega)
    · exact pk_sub (b := 1) (by omega)
  refine nm_r ef (nm_r ep ?_)
  have hf : f < 81 := by omega
  have hp : p < 81 := by omega
  have hle := cm_le hM (show f < 89 by omega)
  have hbb := cm_b hM (show f < 89 by omega) 0
  refine yp_c (i := 0) hM (by omega) (by omega) ?_
  rw [nI_clamp (n := f) (by omega), cm_len hM (show f < 89 by omega)]
  have hgo : ¬ ((m f).length = 1 ∧ tm_vn (tm_at (m f) 0) ≠ none) → ∃ c, wY_useLemma_99 post (nI f) (nI p) (nI n) yq (nI ng) (nI k) T L K bo bs be fa fr fe hr ft hyA vl ee wb c 0 := by
    intro hns
    refine ⟨(m p).length + 1, yl_99 hM (by omega) (by omega) (fun hsub => ?_) (fun z => hF (Or.inr z)) _ 0 (by omega) (Nat.zero_le _) (fun j hj => absurd hj (Nat.not_lt_zero _))⟩
    exact yp_fin (pat := true) hS hg hRU hH hM hRm hk hg0 hg8 w1 w2 wl1 wl2 hf hp pf pp fp (Or.inl ⟨rfl, rfl⟩) (Or.inr hns) (hN hns hsub) (hL hns hsub) (hO hns hsub)
  refine ⟨vp_in_nI (by omega) (by omega), pk_eq (m f).length 1 (fun e => ?_) (fun e => hgo (fun z => e z.1))⟩
  exact yp_vnum (by omega) (fun v hv hv16 => br_f (nI_pos (by omega)) (hF (Or.inl ⟨e, by rw [hv]; exact Option.some_ne_none v⟩))) (fun hv => br_t (by decide) (hgo (fun z => z.2 hv)))
end YF
end
section
/-! 26: the reference: defineRule, conjecture -/
theorem fl_nd {w : List Nat} {e : Nat} (he : e ≤ w.length) : (∀ i j, 2 ≤ i → i < j → j < e → tm_at w i ≠ tm_at w j) ↔ ((w.take e).drop 2).Nodup := by
  have l0 : (w.take e).length = e := by rw [List.length_take]; omega
  have hat : ∀ i, i < e - 2 → tm_at ((w.take e).drop 2) i = tm_at w (2 + i) := by
    intro i hi
    rw [tm_at_drop, tm_at_take (by omega)]
  have ld : ((w.take e).drop 2).length = e - 2 := by rw [List.length_drop, l0]
  rw [List.nodup_iff_pairwise_ne, List.pairwise_iff_getElem]
  constructor
  · intro h i j hi hj hij
    have := h (2 + i) (2 + j) (by omega) (by omega) (by omega)
    rw [← hat i (by omega), ← hat j (by omega), tm_at_lt hi, tm_at_lt hj] at this
    exact this
  · intro h i j h1 h2 h3
    have hi : i - 2 < ((w.take e).drop 2).length := by omega
    have hj : j - 2 < ((w.take e).drop 2).length := by omega
    have := h (i - 2) (j - 2) hi hj (by omega)
    rw [← tm_at_lt hi, ← tm_at_lt hj, hat _ (by omega), hat _ (by omega), show 2 + (i - 2) = i by omega, show 2 + (j - 2) = j by omega] at this
    exact this
theorem fl_mem {w : List Nat} {e i : Nat} (he : e ≤ w.length) (h1 : 2 ≤ i) (h2 : i < e) : tm_at w i ∈ (w.take e).drop 2 := by
  have : tm_at ((w.take e).drop 2) (i - 2) = tm_at w i := by
    rw [tm_at_drop, tm_at_take (by omega), show 2 + (i - 2) = i by omega]
  rw [← this]
  exact tm_at_mem (by rw [List.length_drop, List.length_take]; omega)
section YG
variable {yn yq yg ya : Int32} {T L K bo bs be fa fr fe hr ft hyA vl ee wb : Nat → Int32} {m : Nat → List Nat} {n ng : Nat} {A : Nat → List Nat} {Z : Nat → Nat} {R : Nat → List Nat} {w : List Nat} {e : Nat}
set_option maxHeartbeats 200000 in
theorem yl_311 {post : Int32 → SY → Prop} {f k : Nat} (hM : cm_M 64 89 T L m) (hH : yr_H R hr) (h87 : m 87 = w) (h48 : w.length ≤ 48) (he : e < w.length) (hf : f < 8) (hk : k < 2)
    (hD : R (4 * f + 2 * k) ≠ [] → post (-3) (yn, yq, yg, ya, T, L, K, bo, bs, be, fa, fr, fe, hr, ft, hyA, vl, ee, wb))
    (hO : R (4 * f + 2 * k) = [] → ∀ T' L' m', cm_M 64 89 T' L' m' → m' (1 + (4 * f + 2 * k)) = w.take e → m' (1 + (4 * f + 2 * k + 1)) = w.drop (e + 1) → (∀ s, s ≠ 1 + (4 * f + 2 * k) → s ≠ 1 + (4 * f + 2 * k + 1) → m' s = m s) → post 0 (yn, yq, yg, ya, T', L', K, bo, bs, be, fa, fr, fe, upd hr (2 * f + k) 1, ft, hyA, vl, ee, wb)) : wY_defineRule_311 post (nI e) (nI f) (nI k) yn yq yg ya T L K bo bs be fa fr fe hr ft hyA vl ee wb := by
  unfold wY_defineRule_311
  rw [show (2 : Int32) * nI f = nI (2 * f) from pk_mul 2 f, nI_add, nI_clamp (n := 2 * f + k) (by omega), hH f k hf hk]
  refine ⟨vp_in_nI (by omega) (by omega), ?_⟩
  by_cases hR : R (4 * f + 2 * k) = []
  · rw [if_pos hR]
    refine br_t rfl (nm_r (e' := nI (1 + (4 * f + 2 * k))) ?_ ?_)
    · rw [show (2 : Int32) * nI (2 * f + k) = nI (2 * (2 * f + k)) from pk_mul 2 _, show (1 : Int32) + nI (2 * (2 * f + k)) = nI (1 + 2 * (2 * f + k)) from nI_add 1 _]
      exact congrArg nI (by omega)
    · rw [nI_clamp (n := 1 + (4 * f + 2 * k)) (by omega)]
      refine ⟨vp_in_nI (by omega) (by omega), nm_e ?_⟩
      have hM1 := cm_nil hM (s := 1 + (4 * f + 2 * k)) (by omega)
      have q87 : ∀ {u : List Nat}, cm_set m (1 + (4 * f + 2 * k)) u 87 = w := by
        intro u
        rw [cm_set_n (by omega), h87]
      refine yp_cr (s := 87) (a := 0) hM1 (by omega) (by omega) (by omega) (by rw [q87]; omega) (Nat.zero_le _) (fun T2 L2 hM2 => ?_)
      rw [q87, cm_set_s, cm_set_set, List.nil_append, List.drop_zero, Nat.sub_zero, cm_tl (K := 64) (by rw [List.length_take]; omega)] at hM2
      rw [show nI (1 + (4 * f + 2 * k)) + 1 = nI (1 + (4 * f + 2 * k + 1)) from by rw [nI_1, Nat.add_assoc], nI_clamp (n := 1 + (4 * f + 2 * k + 1)) (by omega), nI_1 e]
      refine ⟨vp_in_nI (by omega) (by omega), nm_e ?_⟩
      have hM3 := cm_nil hM2 (s := 1 + (4 * f + 2 * k + 1)) (by omega)
      have hl3 := cm_len hM3 (s := 87) (by omega)
      rw [cm_set_n (by omega), q87] at hl3
      dsimp only
      rw [hl3]
      refine yp_cr (s := 87) hM3 (by omega) (by omega) (by omega) (by rw [cm_set_n (by omega), q87]; exact Nat.le_refl _) (by omega) (fun T4 L4 hM4 => ?_)
      rw [cm_set_s, cm_set_set, cm_set_n (s := 1 + (4 * f + 2 * k + 1)) (j := 87) (by omega), q87, List.nil_append, cm_tl (K := w.length - (e + 1)) (by rw [List.length_drop]; exact Nat.le_refl _), cm_tl (K := 64) (by rw [List.length_drop]; omega)] at hM4
      dsimp only
      rw [yi_b1]
      refine ⟨vp_in_nI (by omega) (by omega), nm_e (hO hR T4 L4 _ hM4 ?_ cm_set_s ?_)⟩
      · rw [cm_set_n (by omega), cm_set_s]
      · intro s a b
        rw [cm_set_n b, cm_set_n a]
  · rw [if_neg hR]
    exact br_f (by decide) (hD hR)
set_option maxHeartbeats 200000 in
theorem yl_225 {post : Int32 → SY → Prop} {J : Int32 → Prop} {x1 x4 x5 : Int32} {i : Nat} (hn : n ≤ 8) (hM : cm_M 64 89 T L m) (hH : yr_H R hr) (h87 : m 87 = w) (hi : i < 2 ^ 30) (h0n : tm_fn (tm_at w 0)) (h0d : tm_at w 0 < 70 + n) (hdec : tm_fn (tm_at w i) → tm_at w i < 70 + n) (hx5 : (x5 = nI (eq_rc w) ∧ eq_rc w ≠ 0) ∨ (x5 = -1 ∧ eq_rc w = 0)) (hrc : eq_rc w < 256)
    (hJ : eq_F1 R w i → J (nI i + 1)) (hF : ¬ eq_F1 R w i → post (-2) (nI n, yq, yg, ya, T, L, K, bo, bs, be, fa, fr, fe, hr, ft, hyA, vl, ee, wb)) : wY_defineRule_225 post J x1 (nI (tm_at w 0 - 70)) x4 x5 (nI i) (nI (tm_at w i)) (nI n) yq yg ya T L K bo bs be fa fr fe hr ft hyA vl ee wb := by
  unfold wY_defineRule_225
  have b1 := cm_b hM (s := 87) (by omega) i
  have b2 := cm_b hM (s := 87) (by omega) (i + 1)
  rw [h87] at b1 b2
  refine yp_fun hn (by omega) (fun f hf ef => ?_) (fun hno => ?_)
  · have hfn : tm_fn (tm_at w i) := by omega
    rw [nI_1 i]
    refine yp_c (s := 87) hM (by omega) (by omega) ?_
    rw [h87]
    have h265 : ¬ (tm_at w i < tm_at w 0 ∧ tm_cp R (tm_at w i)) → wY_defineRule_265 post J x1 (nI (tm_at w 0 - 70)) x4 x5 (nI i) (nI f) (nI (tm_at w (i + 1))) (nI n) yq yg ya T L K bo bs be fa fr fe hr ft hyA vl ee wb := by
      intro hno
      unfold wY_defineRule_265
      refine pk_eq f (tm_at w 0 - 70) (fun q => ?_) (fun q => hF (fun z => ?_))
      · rcases hx5 with ⟨rfl, hr0⟩ | ⟨rfl, hr0⟩
        · refine br_f (nI_pos (by omega)) (pk_eq (tm_at w (i + 1)) (eq_rc w) (fun q2 => nm_e (hJ (fun _ => Or.inr ⟨by omega, hr0, q2⟩))) (fun q2 => hF (fun z => ?_)))
          rcases z hfn with z | z
          · exact hno z
          · exact q2 z.2.2
        · refine br_t (by decide) (hF (fun z => ?_))
          rcases z hfn with z | z
          · exact hno z
          · exact z.2.1 hr0
      · rcases z hfn with z | z
        · exact hno z
        · omega
    refine br_f (nI_pos (by omega)) (pk_le (tm_at w 0 - 70) f (fun hge => h265 (fun z => by omega)) (fun hlt => ?_))
    have hJ2 : eq_F1 R w i → J (nI (i + 1)) := by
      rw [← nI_1]
      exact hJ
    refine yp_cpl hH (by omega) (fun hcp => br_f (by decide) (nm_e (hJ2 (fun _ => Or.inl ⟨by omega, by rw [ef]; exact hcp⟩)))) (fun hcp => br_t rfl (h265 (fun z => hcp (by rw [← ef]; exact z.2))))
  · rw [nI_1 i]
    refine yp_c (s := 87) hM (by omega) (by omega) (br_t (by decide) ?_)
    rw [← nI_1]
    exact nm_e (hJ (fun z => absurd ⟨z.1, hdec z⟩ hno))
set_option maxHeartbeats 200000 in
theorem yl_178 {post : Int32 → SY → Prop} {x5 : Int32} {k : Nat} (hn : n ≤ 8) (hM : cm_M 64 89 T L m) (hH : yr_H R hr) (h87 : m 87 = w) (h48 : w.length ≤ 48) (he : e < w.length) (h0n : tm_fn (tm_at w 0)) (h0d : tm_at w 0 < 70 + n) (hdec : ∀ i, e < i → i < w.length → tm_fn (tm_at w i) → tm_at w i < 70 + n) (hx5 : (x5 = nI (eq_rc w) ∧ eq_rc w ≠ 0) ∨ (x5 = -1 ∧ eq_rc w = 0)) (hrc : eq_rc w < 256) (hk : tm_kd (tm_at w 1) = some k)
    (hE : eq_FV w e → eq_FF R w e → wY_defineRule_311 post (nI e) (nI (tm_at w 0 - 70)) (nI k) (nI n) yq yg ya T L K bo bs be fa fr fe hr ft hyA vl ee wb) (hF : ¬ (eq_FV w e ∧ eq_FF R w e) → post (-2) (nI n, yq, yg, ya, T, L, K, bo, bs, be, fa, fr, fe, hr, ft, hyA, vl, ee, wb)) :
    ∀ c i, w.length - i < c → e < i → i ≤ w.length → (∀ j, e < j → j < i → (tm_vn (tm_at w j) ≠ none → ∃ l, l < e ∧ tm_at w l = tm_at w j) ∧ eq_F1 R w j) → wY_defineRule_178 post (nI e) (nI (tm_at w 0 - 70)) (nI (tm_at w 1)) x5 (nI n) yq yg ya T L K bo bs be fa fr fe hr ft hyA vl ee wb c (nI i) := by
  have hl87 := cm_len hM (s := 87) (by omega)
  rw [h87] at hl87
  have bk := cm_b hM (s := 87) (by omega) 1
  rw [h87] at bk
  have hkc := tm_kd_c hk
  intro c
  induction c with
  | zero => intro i a; omega
  | succ c ih =>
    intro i ha hb hc hj
    rw [wY_defineRule_178]
    dsimp only
    rw [hl87]
    refine pk_le w.length i (fun hge => ?_) (fun hlt => ?_)
    · have h311 := hE (fun j j1 j2 j3 => (hj j j1 (by omega)).1 j3) (fun j j1 j2 => (hj j j1 (by omega)).2)
      unfold wY_defineRule_306
      refine pk_eq (tm_at w 1) 90 (fun z => ?_) (fun z1 => pk_eq (tm_at w 1) 78 (fun z => ?_) (fun z2 => ?_))
      · have : k = 0 := by omega
        subst this
        exact h311
      · have : k = 0 := by omega
        subst this
        exact h311
      · have : k = 1 := by omega
        subst this
        exact h311
    · have b1 := cm_b hM (s := 87) (by omega) i
      rw [h87] at b1
      have h225 : (tm_vn (tm_at w i) ≠ none → ∃ l, l < e ∧ tm_at w l = tm_at w i) → wY_defineRule_225 post (wY_defineRule_178 post (nI e) (nI (tm_at w 0 - 70)) (nI (tm_at w 1)) x5 (nI n) yq yg ya T L K bo bs be fa fr fe hr ft hyA vl ee wb c) (nI e) (nI (tm_at w 0 - 70)) (nI (tm_at w 1)) x5 (nI i) (nI (tm_at w i)) (nI n) yq yg ya T L K bo bs be fa fr fe hr ft hyA vl ee wb := by
        intro hv
        refine yl_225 hn hM hH h87 (by omega) h0n h0d (hdec i hb hlt) hx5 hrc (fun hf1 => ?_) (fun hf1 => hF (fun z => hf1 (z.2 i hb hlt)))
        rw [nI_1]
        refine ih (i + 1) (by omega) (by omega) (by omega) (fun j j1 j2 => ?_)
        by_cases q : j = i
        · rw [q]; exact ⟨hv, hf1⟩
        · exact hj j j1 (by omega)
      refine yp_c (s := 87) hM (by omega) (by omega) ?_
      rw [h87]
      refine yp_vnum (by omega) (fun v hv hv16 => br_f (nI_pos (by omega)) ?_) (fun hv => br_t (by decide) (h225 (fun z => absurd hv z)))
      refine yp_cnt (s := 87) (a := 0) hM (by omega) (Nat.zero_le _) (by rw [h87]; omega) (by omega) ?_
      rw [h87, List.drop_zero]
      have hcl : List.count (tm_at w i) (w.take e) ≤ (w.take e).length := List.count_le_length
      rw [List.length_take] at hcl
      refine pk_eq (List.count (tm_at w i) (w.take e)) 0 (fun z => hF (fun y => ?_)) (fun z => h225 (fun _ => ?_))
      · obtain ⟨l, l1, l2⟩ := y.1 i hb hlt (by rw [hv]; exact Option.some_ne_none v)
        have hm : tm_at w i ∈ w.take e := by
          rw [← l2, ← tm_at_take (w := w) l1]
          exact tm_at_mem (by rw [List.length_take]; omega)
        have := List.count_pos_iff.mpr hm
        omega
      · obtain ⟨l, l1, l2⟩ := tm_mem_at (List.count_pos_iff.mp (Nat.pos_of_ne_zero z))
        rw [List.length_take] at l1
        rw [tm_at_take (by omega)] at l2
        exact ⟨l, by omega, l2⟩
set_option maxHeartbeats 200000 in
theorem yl_88 {post : Int32 → SY → Prop} {k : Nat} (hn : n ≤ 8) (hM : cm_M 64 89 T L m) (hH : yr_H R hr) (h87 : m 87 = w) (h48 : w.length ≤ 48) (he : e < w.length) (h0n : tm_fn (tm_at w 0)) (h0d : tm_at w 0 < 70 + n) (hdec : ∀ i, e < i → i < w.length → tm_fn (tm_at w i) → tm_at w i < 70 + n) (hrc : eq_rc w < 256) (hk : tm_kd (tm_at w 1) = some k) (hlen : 2 ≤ e ∧ (tm_at w 1 = 83 → 3 ≤ e) ∧ (tm_at w 1 = 67 → 4 ≤ e))
    (hE : eq_F R w e → wY_defineRule_311 post (nI e) (nI (tm_at w 0 - 70)) (nI k) (nI n) yq yg ya T L K bo bs be fa fr fe hr ft hyA vl ee wb) (hF : ¬ eq_F R w e → post (-2) (nI n, yq, yg, ya, T, L, K, bo, bs, be, fa, fr, fe, hr, ft, hyA, vl, ee, wb)) :
    ∀ c i, e - i < c → 2 ≤ i → i ≤ e → (∀ j, 2 ≤ j → j < i → tm_vn (tm_at w j) ≠ none ∧ List.count (tm_at w j) ((w.take e).drop 2) = 1) → wY_defineRule_88 post (nI e) (nI (tm_at w 0 - 70)) (nI (tm_at w 1)) (nI n) yq yg ya T L K bo bs be fa fr fe hr ft hyA vl ee wb c (nI i) := by
  have bk := cm_b hM (s := 87) (by omega) 1
  have bk2 := cm_b hM (s := 87) (by omega) 2
  have bk3 := cm_b hM (s := 87) (by omega) 3
  rw [h87] at bk bk2 bk3
  intro c
  induction c with
  | zero => intro i a; omega
  | succ c ih =>
    intro i ha hb hc hj
    rw [wY_defineRule_88]
    dsimp only
    refine pk_le e i (fun hge => ?_) (fun hlt => ?_)
    · have ei : i = e := by omega
      subst ei
      have hFL : eq_FL w i := by
        refine ⟨h0n, by rw [hk]; exact Option.some_ne_none k, fun j a b => (hj j a b).1, ?_⟩
        rw [fl_nd (by omega), List.nodup_iff_count]
        intro a
        by_cases hm : a ∈ (w.take i).drop 2
        · obtain ⟨j, j1, j2⟩ := tm_mem_at hm
          rw [List.length_drop, List.length_take] at j1
          rw [tm_at_drop, tm_at_take (by omega)] at j2
          have := (hj (2 + j) (by omega) (by omega)).2
          rw [j2] at this
          omega
        · rw [List.count_eq_zero_of_not_mem hm]
          omega
      have h178 : ∀ x5, ((x5 = nI (eq_rc w) ∧ eq_rc w ≠ 0) ∨ (x5 = -1 ∧ eq_rc w = 0)) → ∀ x6, x6 = nI i + 1 → ∃ c, wY_defineRule_178 post (nI i) (nI (tm_at w 0 - 70)) (nI (tm_at w 1)) x5 (nI n) yq yg ya T L K bo bs be fa fr fe hr ft hyA vl ee wb c x6 := by
        intro x5 hx5 x6 e6
        rw [e6, nI_1]
        exact ⟨w.length + 1, yl_178 hn hM hH h87 h48 he h0n h0d hdec hx5 hrc hk (fun a b => hE ⟨hFL, a, b⟩) (fun z => hF (fun y => z y.2)) _ (i + 1) (by omega) (by omega) (by omega) (fun j a b => by omega)⟩
      have hvn0 : ∀ j, 2 ≤ j → j < i → tm_at w j ≠ 0 := by
        intro j a b z
        apply (hj j a b).1
        rw [z]
        rfl
      refine pk_eq (tm_at w 1) 83 (fun z => ?_) (fun z1 => pk_eq (tm_at w 1) 67 (fun z => ?_) (fun z2 => ?_))
      · have hrc2 : eq_rc w = tm_at w 2 := if_pos z
        refine yp_c (s := 87) (i := 2) hM (by omega) (by omega) ?_
        rw [h87, ← hrc2]
        exact h178 _ (Or.inl ⟨rfl, by rw [hrc2]; exact hvn0 2 (by omega) (by have := hlen.2.1 z; omega)⟩)
      · have hrc2 : eq_rc w = tm_at w 3 := by
          unfold eq_rc
          rw [if_neg (by omega), if_pos z]
        refine yp_c (s := 87) (i := 3) hM (by omega) (by omega) ?_
        rw [h87, ← hrc2]
        exact h178 _ (Or.inl ⟨rfl, by rw [hrc2]; exact hvn0 3 (by omega) (by have := hlen.2.2 z; omega)⟩)
      · have hrc2 : eq_rc w = 0 := by
          unfold eq_rc
          rw [if_neg z1, if_neg z2]
        exact h178 _ (Or.inr ⟨rfl, hrc2⟩)
    · have b1 := cm_b hM (s := 87) (by omega) i
      rw [h87] at b1
      refine yp_c (s := 87) hM (by omega) (by omega) ?_
      rw [h87]
      refine yp_vnum (by omega) (fun v hv hv16 => br_f (nI_pos (by omega)) ?_) (fun hv => br_t (by decide) (hF (fun z => z.1.2.2.1 i hb hlt hv)))
      refine yp_cnt (s := 87) (a := 2) hM (by omega) (by omega) (by rw [h87]; omega) (by omega) ?_
      rw [h87]
      have hcl : List.count (tm_at w i) ((w.take e).drop 2) ≤ ((w.take e).drop 2).length := List.count_le_length
      rw [List.length_drop, List.length_take] at hcl
      refine pk_eq (List.count (tm_at w i) ((w.take e).drop 2)) 1 (fun z => ?_) (fun z => hF (fun y => ?_))
      · refine nm_r (nI_1 i) (ih (i + 1) (by omega) (by omega) (by omega) (fun j a b => ?_))
        by_cases q : j = i
        · rw [q, hv]; exact ⟨Option.some_ne_none v, z⟩
        · exact hj j a (by omega)
      · have hnd := (fl_nd (w := w) (e := e) (by omega)).mp y.1.2.2.2
        have := List.nodup_iff_count.mp hnd (tm_at w i)
        have := List.count_pos_iff.mpr (fl_mem (w := w) (e := e) (by omega) hb hlt)
        omega
set_option maxHeartbeats 400000 in
theorem yp_define {post : Int32 → SY → Prop} (hS : tm_SG n A Z) (hg : sg_Y n A Z fa fr fe) (hM : cm_M 64 89 T L m) (hH : yr_H R hr) (h48 : (m 0).length ≤ 48)
    (hSy : (∀ e, ¬ eq_Q (tm_sg n A Z) (m 0) e) → ∀ T' L' K' m', cm_M 64 89 T' L' m' → m' 0 = [] → (∀ s, 1 ≤ s → s < 81 → m' s = m s) → post (-1) (nI n, yq, yg, ya, T', L', K', bo, bs, be, fa, fr, fe, hr, ft, hyA, vl, ee, wb))
    (hF : ∀ e, eq_Q (tm_sg n A Z) (m 0) e → ¬ eq_F R (m 0) e → ∀ T' L' K' m', cm_M 64 89 T' L' m' → m' 0 = [] → (∀ s, 1 ≤ s → s < 81 → m' s = m s) → post (-2) (nI n, yq, yg, ya, T', L', K', bo, bs, be, fa, fr, fe, hr, ft, hyA, vl, ee, wb))
    (hD : ∀ e k, eq_Q (tm_sg n A Z) (m 0) e → eq_F R (m 0) e → tm_kd (tm_at (m 0) 1) = some k → R (4 * (tm_at (m 0) 0 - 70) + 2 * k) ≠ [] → ∀ T' L' K' m', cm_M 64 89 T' L' m' → m' 0 = [] → (∀ s, 1 ≤ s → s < 81 → m' s = m s) → post (-3) (nI n, yq, yg, ya, T', L', K', bo, bs, be, fa, fr, fe, hr, ft, hyA, vl, ee, wb))
    (hO : ∀ e k, eq_Q (tm_sg n A Z) (m 0) e → eq_F R (m 0) e → tm_kd (tm_at (m 0) 1) = some k → R (4 * (tm_at (m 0) 0 - 70) + 2 * k) = [] → ∀ T' L' K' m', cm_M 64 89 T' L' m' → m' 0 = [] → m' (1 + (4 * (tm_at (m 0) 0 - 70) + 2 * k)) = (m 0).take e → m' (1 + (4 * (tm_at (m 0) 0 - 70) + 2 * k + 1)) = (m 0).drop (e + 1) → (∀ s, 1 ≤ s → s < 81 → s ≠ 1 + (4 * (tm_at (m 0) 0 - 70) + 2 * k) → s ≠ 1 + (4 * (tm_at (m 0) 0 - 70) + 2 * k + 1) → m' s = m s) → post 0 (nI n, yq, yg, ya, T', L', K', bo, bs, be, fa, fr, fe, upd hr (2 * (tm_at (m 0) 0 - 70) + k) 1, ft, hyA, vl, ee, wb)) : wpY_defineRule post (nI n, yq, yg, ya, T, L, K, bo, bs, be, fa, fr, fe, hr, ft, hyA, vl, ee, wb) := by
  unfold wpY_defineRule
  dsimp only
  have hn := hS.1
  refine yp_copy (s := 0) (d := 87) hM (by omega) (by omega) (by omega) (fun T1 L1 hM1 => ?_)
  have hM2 := cm_nil hM1 (s := 0) (by omega)
  generalize hm2 : cm_set (cm_set m 87 (m 0)) 0 [] = m2 at hM2
  have h87 : m2 87 = m 0 := by rw [← hm2, cm_set_n (by omega), cm_set_s]
  have e0 : m2 0 = [] := by rw [← hm2, cm_set_s]
  have hfr : ∀ s, 1 ≤ s → s < 81 → m2 s = m s := fun s a b => by rw [← hm2, cm_set_n (by omega), cm_set_n (by omega)]
  refine nm_e ?_
  dsimp only
  refine yp_eqp (s := 87) hS hg hM2 (by omega) (by rw [h87]; exact h48) ?_ ?_
  · rw [h87]
    intro e hQ K1
    have hQ2 := hQ
    obtain ⟨he, h61, sv, p1, p2⟩ := hQ2
    have b0 := cm_b hM2 (s := 87) (by omega) 0
    have b1 := cm_b hM2 (s := 87) (by omega) 1
    have hrc := eq_rc_lt hM2 (s := 87) (by omega)
    rw [h87] at b0 b1 hrc
    have hF2 : ¬ eq_F R (m 0) e → post (-2) (nI n, yq, yg, ya, T1, upd L1 0 0, K1, bo, bs, be, fa, fr, fe, hr, ft, hyA, vl, ee, wb) := fun hno => hF e hQ hno T1 _ K1 m2 hM2 e0 hfr
    have epos : 0 < e := by
      have := tm_P_ne p1
      rw [List.length_take] at this
      omega
    have h0d : tm_fn (tm_at (m 0) 0) → tm_at (m 0) 0 < 70 + n := by
      intro hf0
      refine yi_fn hS p1 ?_ hf0
      rw [← tm_at_take (w := m 0) epos]
      exact tm_at_mem (by rw [List.length_take]; omega)
    have hdec : ∀ i, e < i → i < (m 0).length → tm_fn (tm_at (m 0) i) → tm_at (m 0) i < 70 + n := by
      intro i h1 h2 hfi
      refine yi_fn hS p2 ?_ hfi
      have : tm_at ((m 0).drop (e + 1)) (i - (e + 1)) = tm_at (m 0) i := by
        rw [tm_at_drop]
        exact congrArg _ (by omega)
      rw [← this]
      exact tm_at_mem (by rw [List.length_drop]; omega)
    refine br_t (nI_pos' (by omega)) ?_
    dsimp only
    refine yp_c (s := 87) (i := 0) hM2 (by omega) (by omega) ?_
    rw [h87]
    refine yp_fun hn (by omega) (fun f hf ef => ?_) (fun hno => ?_)
    · have hf0 : tm_fn (tm_at (m 0) 0) := by omega
      have hff : f = tm_at (m 0) 0 - 70 := by omega
      subst hff
      refine yp_c (s := 87) (i := 1) hM2 (by omega) (by omega) ?_
      rw [h87]
      refine br_f (nI_pos (by omega)) ?_
      have h88 : ∀ k, tm_kd (tm_at (m 0) 1) = some k → ∃ c, wY_defineRule_88 post (nI e) (nI (tm_at (m 0) 0 - 70)) (nI (tm_at (m 0) 1)) (nI n) yq yg ya T1 (upd L1 0 0) K1 bo bs be fa fr fe hr ft hyA vl ee wb c 2 := by
        intro k hk
        have hk2 : k < 2 := by
          have := tm_kd_c hk
          omega
        have hlen := eq_len hQ (by rw [hk]; exact Option.some_ne_none k) hf0
        refine ⟨e + 1, yl_88 hn hM2 hH h87 h48 he hf0 (h0d hf0) hdec hrc hk hlen (fun hFF => ?_) hF2 _ 2 (by omega) (by omega) hlen.1 (fun j a b => by omega)⟩
        refine yl_311 hM2 hH h87 h48 he (by omega) hk2 (fun hne => hD e k hQ hFF hk hne T1 _ K1 m2 hM2 e0 hfr) (fun hnil T3 L3 m3 hM3 q1 q2 q3 => ?_)
        exact hO e k hQ hFF hk hnil T3 L3 K1 m3 hM3 (by rw [q3 0 (by omega) (by omega), e0]) q1 q2 (fun s a b c d => by rw [q3 s c d, hfr s a b])
      refine pk_eq (tm_at (m 0) 1) 90 (fun z => h88 0 (by rw [z]; rfl)) (fun z1 => pk_eq (tm_at (m 0) 1) 78 (fun z => h88 0 (by rw [z]; rfl)) (fun z2 => pk_eq (tm_at (m 0) 1) 83 (fun z => h88 1 (by rw [z]; rfl)) (fun z3 => pk_eq (tm_at (m 0) 1) 67 (fun z => h88 1 (by rw [z]; rfl)) (fun z4 => hF2 (fun y => y.1.2.1 ?_)))))
      unfold tm_kd
      rw [if_neg (by omega), if_neg (by omega)]
    · refine yp_c (s := 87) (i := 1) hM2 (by omega) (by omega) (br_t (by decide) (hF2 (fun z => hno ⟨z.1.1.1, h0d z.1.1⟩)))
  · rw [h87]
    intro hno K1
    exact br_f (by decide) (hSy hno T1 _ K1 m2 hM2 e0 hfr)
end YG
end
section
/-! 27: the reference: conjecture, generalize -/
section YH
variable {yn yq yg ya : Int32} {T L K bo bs be fa fr fe hr ft hyA vl ee wb : Nat → Int32} {m : Nat → List Nat} {n ng q : Nat} {A : Nat → List Nat} {Z : Nat → Nat} {R : Nat → List Nat} {w : List Nat} {e : Nat}
set_option maxHeartbeats 200000 in
theorem yl_107 {post : Int32 → SY → Prop} (hM : cm_M 64 89 T L m) (h87 : m 87 = w) (h48 : w.length ≤ 48) (he : e < w.length) (hq : q < 8)
    (hO : ∀ T' L' m', cm_M 64 89 T' L' m' → m' (33 + 2 * q) = w.take e → m' (33 + 2 * q + 1) = w.drop (e + 1) → m' 49 = w.take e → m' 50 = w.drop (e + 1) → (∀ s, s ≠ 33 + 2 * q → s ≠ 33 + 2 * q + 1 → s ≠ 49 → s ≠ 50 → m' s = m s) → post (nI q) (yn, nI (q + 1), 1, nI q, T', L', K, bo, bs, be, fa, fr, fe, hr, upd ft q 2, upd hyA 0 0, vl, ee, wb)) : wY_conjecture_107 post (nI e) yn (nI q) yg ya T L K bo bs be fa fr fe hr ft hyA vl ee wb := by
  unfold wY_conjecture_107
  rw [nI_1 q, show (2 : Int32) * nI q = nI (2 * q) from pk_mul 2 q, show (33 : Int32) + nI (2 * q) = nI (33 + 2 * q) from nI_add 33 _, nI_clamp (n := q) (by omega), yi_b0]
  refine nm_e (nm_e ?_)
  rw [nI_clamp (n := 33 + 2 * q) (by omega), nI_1 (33 + 2 * q), nI_clamp (n := 33 + 2 * q + 1) (by omega), nI_1 e]
  refine ⟨vp_in_nI (by omega) (by omega), nm_e ?_⟩
  have hM1 := cm_nil hM (s := 33 + 2 * q) (by omega)
  have q87 : ∀ {u : List Nat}, cm_set m (33 + 2 * q) u 87 = w := by
    intro u
    rw [cm_set_n (by omega), h87]
  refine yp_cr (s := 87) (a := 0) hM1 (by omega) (by omega) (by omega) (by rw [q87]; omega) (Nat.zero_le _) (fun T2 L2 hM2 => ?_)
  rw [q87, cm_set_s, cm_set_set, List.nil_append, List.drop_zero, Nat.sub_zero, cm_tl (K := 64) (by rw [List.length_take]; omega)] at hM2
  dsimp only
  refine ⟨vp_in_nI (by omega) (by omega), nm_e ?_⟩
  have hM3 := cm_nil hM2 (s := 33 + 2 * q + 1) (by omega)
  have hl3 := cm_len hM3 (s := 87) (by omega)
  rw [cm_set_n (by omega), q87] at hl3
  rw [hl3]
  refine yp_cr (s := 87) hM3 (by omega) (by omega) (by omega) (by rw [cm_set_n (by omega), q87]; exact Nat.le_refl _) (by omega) (fun T4 L4 hM4 => ?_)
  rw [cm_set_s, cm_set_set, cm_set_n (s := 33 + 2 * q + 1) (j := 87) (by omega), q87, List.nil_append, cm_tl (K := w.length - (e + 1)) (by rw [List.length_drop]; exact Nat.le_refl _), cm_tl (K := 64) (by rw [List.length_drop]; omega)] at hM4
  dsimp only
  refine ⟨vp_in_nI (by omega) (by omega), nm_e (nm_e ?_)⟩
  refine yp_copy (d := 49) hM4 (by omega) (by omega) (by omega) (fun T5 L5 hM5 => ?_)
  rw [cm_set_n (s := 33 + 2 * q + 1) (j := 33 + 2 * q) (by omega), cm_set_s] at hM5
  dsimp only
  refine yp_copy (d := 50) hM5 (by omega) (by omega) (by omega) (fun T6 L6 hM6 => ?_)
  rw [cm_set_n (s := 49) (j := 33 + 2 * q + 1) (by omega), cm_set_s] at hM6
  dsimp only
  refine hO T6 L6 _ hM6 ?_ ?_ ?_ cm_set_s ?_
  · simp (disch := omega) only [cm_set_s, cm_set_n]
  · simp (disch := omega) only [cm_set_s, cm_set_n]
  · simp (disch := omega) only [cm_set_s, cm_set_n]
  · intro s a b c d
    rw [cm_set_n d, cm_set_n c, cm_set_n b, cm_set_n a]
/-- the statuses after the old active formula went open -/
def yo_ft (ya : Int32) (ft : Nat → Int32) : Nat → Int32 := if ya < 0 then ft else upd ft ya.toNatClampNeg 1
set_option maxHeartbeats 200000 in
theorem yl_29 {post : Int32 → SY → Prop} (hn : n ≤ 8) (hq : q ≤ 8) (hM : cm_M 64 89 T L m) (hH : yr_H R hr) (h87 : m 87 = w) (h48 : w.length ≤ 48) (he : e < w.length) (hact : ya < 0 ∨ ∃ k, k < 8 ∧ ya = nI k) (hdec : ∀ i, i < w.length → tm_fn (tm_at w i) → tm_at w i < 70 + n)
    (hF : ¬ tm_FC R w → post (-2) (nI n, nI q, yg, ya, T, L, K, bo, bs, be, fa, fr, fe, hr, ft, hyA, vl, ee, wb)) (hU : tm_FC R w → q = 8 → post (-4) (nI n, nI q, yg, ya, T, L, K, bo, bs, be, fa, fr, fe, hr, ft, hyA, vl, ee, wb)) (hO : tm_FC R w → q < 8 → wY_conjecture_107 post (nI e) (nI n) (nI q) yg ya T L K bo bs be fa fr fe hr (yo_ft ya ft) hyA vl ee wb) :
    ∀ c i, w.length - i < c → i ≤ w.length → (∀ j, j < i → tm_fn (tm_at w j) → tm_cp R (tm_at w j)) → wY_conjecture_29 post (nI e) (nI n) (nI q) yg ya T L K bo bs be fa fr fe hr ft hyA vl ee wb c (nI i) := by
  have hl87 := cm_len hM (s := 87) (by omega)
  rw [h87] at hl87
  intro c
  induction c with
  | zero => intro i a; omega
  | succ c ih =>
    intro i ha hb hj
    rw [wY_conjecture_29]
    dsimp only
    rw [hl87]
    refine pk_le w.length i (fun hge => ?_) (fun hlt => ?_)
    · have hFC : tm_FC R w := by
        intro c hc hf
        obtain ⟨j, hj2, rfl⟩ := tm_mem_at hc
        exact hj j (by omega) hf
      refine pk_lt q 8 (fun z => ?_) (fun z => hU hFC (by omega))
      have h9 := hO hFC z
      unfold yo_ft at h9
      rcases hact with hx | ⟨k, hk, hx⟩
      · rw [if_pos hx] at h9
        exact br_t hx h9
      · have hx2 : ¬ ya < 0 := by rw [hx]; exact nI_pos (by omega)
        rw [if_neg hx2] at h9
        exact br_f hx2 ⟨by rw [hx]; exact vp_in_nI hk (by omega), nm_e h9⟩
    · have bi := cm_b hM (s := 87) (by omega) i
      rw [h87] at bi
      have hnext : (tm_fn (tm_at w i) → tm_cp R (tm_at w i)) → wY_conjecture_29 post (nI e) (nI n) (nI q) yg ya T L K bo bs be fa fr fe hr ft hyA vl ee wb c (nI i + 1) := by
        intro hf
        rw [nI_1]
        refine ih (i + 1) (by omega) (by omega) (fun j h2 => ?_)
        by_cases z : j = i
        · rw [z]; exact hf
        · exact hj j (by omega)
      refine yp_c (s := 87) hM (by omega) (by omega) ?_
      rw [h87]
      refine yp_fun hn (by omega) (fun f hf ef => br_f (nI_pos (by omega)) ?_) (fun hno => br_t (by decide) (nm_e (hnext (fun z => absurd ⟨z.1, hdec i hlt z⟩ hno))))
      refine yp_cpl hH (by omega) (fun hcp => br_f (by decide) (nm_e (hnext (fun _ => by rw [ef]; exact hcp)))) (fun hcp => br_t rfl (hF (fun hFC => hcp ?_)))
      have := hFC _ (tm_at_mem hlt) (show tm_fn (tm_at w i) by omega)
      rw [ef] at this
      exact this
set_option maxHeartbeats 400000 in
theorem yp_conj {post : Int32 → SY → Prop} (hS : tm_SG n A Z) (hg : sg_Y n A Z fa fr fe) (hM : cm_M 64 89 T L m) (hH : yr_H R hr) (h48 : (m 0).length ≤ 48) (hq : q ≤ 8) (hact : ya < 0 ∨ ∃ k, k < 8 ∧ ya = nI k)
    (hSy : (∀ e, ¬ eq_Q (tm_sg n A Z) (m 0) e) → ∀ T' L' K' m', cm_M 64 89 T' L' m' → m' 0 = [] → (∀ s, 1 ≤ s → s < 81 → m' s = m s) → post (-1) (nI n, nI q, yg, ya, T', L', K', bo, bs, be, fa, fr, fe, hr, ft, hyA, vl, ee, wb))
    (hF : ∀ e, eq_Q (tm_sg n A Z) (m 0) e → ¬ tm_FC R (m 0) → ∀ T' L' K' m', cm_M 64 89 T' L' m' → m' 0 = [] → (∀ s, 1 ≤ s → s < 81 → m' s = m s) → post (-2) (nI n, nI q, yg, ya, T', L', K', bo, bs, be, fa, fr, fe, hr, ft, hyA, vl, ee, wb))
    (hU : ∀ e, eq_Q (tm_sg n A Z) (m 0) e → tm_FC R (m 0) → q = 8 → ∀ T' L' K' m', cm_M 64 89 T' L' m' → m' 0 = [] → (∀ s, 1 ≤ s → s < 81 → m' s = m s) → post (-4) (nI n, nI q, yg, ya, T', L', K', bo, bs, be, fa, fr, fe, hr, ft, hyA, vl, ee, wb))
    (hO : ∀ e, eq_Q (tm_sg n A Z) (m 0) e → tm_FC R (m 0) → q < 8 → ∀ T' L' K' m', cm_M 64 89 T' L' m' → m' 0 = [] → m' (33 + 2 * q) = (m 0).take e → m' (33 + 2 * q + 1) = (m 0).drop (e + 1) → m' 49 = (m 0).take e → m' 50 = (m 0).drop (e + 1) → (∀ s, 1 ≤ s → s < 81 → s ≠ 33 + 2 * q → s ≠ 33 + 2 * q + 1 → s ≠ 49 → s ≠ 50 → m' s = m s) → post (nI q) (nI n, nI (q + 1), 1, nI q, T', L', K', bo, bs, be, fa, fr, fe, hr, upd (yo_ft ya ft) q 2, upd hyA 0 0, vl, ee, wb)) : wpY_conjecture post (nI n, nI q, yg, ya, T, L, K, bo, bs, be, fa, fr, fe, hr, ft, hyA, vl, ee, wb) := by
  unfold wpY_conjecture
  dsimp only
  have hn := hS.1
  refine yp_copy (s := 0) (d := 87) hM (by omega) (by omega) (by omega) (fun T1 L1 hM1 => ?_)
  have hM2 := cm_nil hM1 (s := 0) (by omega)
  generalize hm2 : cm_set (cm_set m 87 (m 0)) 0 [] = m2 at hM2
  have h87 : m2 87 = m 0 := by rw [← hm2, cm_set_n (by omega), cm_set_s]
  have e0 : m2 0 = [] := by rw [← hm2, cm_set_s]
  have hfr : ∀ s, 1 ≤ s → s < 81 → m2 s = m s := fun s a b => by rw [← hm2, cm_set_n (by omega), cm_set_n (by omega)]
  refine nm_e ?_
  dsimp only
  refine yp_eqp (s := 87) hS hg hM2 (by omega) (by rw [h87]; exact h48) ?_ ?_
  · rw [h87]
    intro e hQ K1
    have hQ2 := hQ
    obtain ⟨he, h61, sv, p1, p2⟩ := hQ2
    have hdec : ∀ i, i < (m 0).length → tm_fn (tm_at (m 0) i) → tm_at (m 0) i < 70 + n := by
      intro i h2 hfi
      by_cases hie : i < e
      · refine yi_fn hS p1 ?_ hfi
        rw [← tm_at_take (w := m 0) hie]
        exact tm_at_mem (by rw [List.length_take]; omega)
      · by_cases hie2 : i = e
        · rw [hie2, h61] at hfi
          omega
        · refine yi_fn hS p2 ?_ hfi
          have : tm_at ((m 0).drop (e + 1)) (i - (e + 1)) = tm_at (m 0) i := by
            rw [tm_at_drop]
            exact congrArg _ (by omega)
          rw [← this]
          exact tm_at_mem (by rw [List.length_drop]; omega)
    refine br_t (nI_pos' (by omega)) ⟨(m 0).length + 1, ?_⟩
    dsimp only
    refine yl_29 hn hq hM2 hH h87 h48 he hact hdec (fun hno => hF e hQ hno T1 _ K1 m2 hM2 e0 hfr) (fun hFC h8 => hU e hQ hFC h8 T1 _ K1 m2 hM2 e0 hfr) (fun hFC h8 => ?_) _ 0 (by omega) (Nat.zero_le _) (fun j hj => absurd hj (Nat.not_lt_zero _))
    refine yl_107 hM2 h87 h48 he h8 (fun T3 L3 m3 hM3 q1 q2 q3 q4 q5 => ?_)
    exact hO e hQ hFC h8 T3 L3 K1 m3 hM3 (by rw [q5 0 (by omega) (by omega) (by omega) (by omega), e0]) q1 q2 q3 q4 (fun s a b c d f g => by rw [q5 s c d f g, hfr s a b])
  · rw [h87]
    intro hno K1
    exact br_f (by decide) (hSy hno T1 _ K1 m2 hM2 e0 hfr)
end YH
end
section
/-! 28: the reference: generalize, induct -/
section YI
variable {yn yq yg ya : Int32} {T L K bo bs be fa fr fe hr ft hyA vl ee wb : Nat → Int32} {m : Nat → List Nat} {n ng q : Nat} {A : Nat → List Nat} {Z : Nat → Nat} {R : Nat → List Nat}
set_option maxHeartbeats 400000 in
theorem yl_75 {post : Int32 → SY → Prop} {t : List Nat} {sv s1 s2 : Nat} {hyv : Bool} (hS : tm_SG n A Z) (hg : sg_Y n A Z fa fr fe) (hM : cm_M 64 89 T L m) (hg0 : 1 ≤ ng) (hg8 : ng ≤ 8) (h87 : m 87 = t) (hP : tm_P (tm_sg n A Z) [sv] t) (hsv : sv < 2) (w1 : tm_P (tm_sg n A Z) [s1] (m (49 + 4 * (ng - 1)))) (w2 : tm_P (tm_sg n A Z) [s2] (m (49 + 4 * (ng - 1) + 1))) (wl1 : (m (49 + 4 * (ng - 1))).length ≤ 48) (wl2 : (m (49 + 4 * (ng - 1) + 1)).length ≤ 48) (hh : hyA (ng - 1) = if hyv = true then 1 else 0)
    (hN : (tm_R (tm_sg n A Z) false (m (49 + 4 * (ng - 1))) t t 0).1 + (tm_R (tm_sg n A Z) false (m (49 + 4 * (ng - 1) + 1)) t t 0).1 = 0 → ∀ T' L' bo' bs' be' m', cm_M 64 89 T' L' m' → (∀ s, s < 81 → m' s = m s) → post (-8) (nI n, yq, nI ng, ya, T', L', K, bo', bs', be', fa, fr, fe, hr, ft, hyA, vl, ee, wb))
    (hU : (tm_R (tm_sg n A Z) false (m (49 + 4 * (ng - 1))) t t 0).1 + (tm_R (tm_sg n A Z) false (m (49 + 4 * (ng - 1) + 1)) t t 0).1 ≠ 0 → (∀ v, 8 * sv ≤ v → v < 8 * sv + 8 → yf_p m hyv (49 + 4 * (ng - 1)) v) → ∀ T' L' bo' bs' be' m', cm_M 64 89 T' L' m' → (∀ s, s < 81 → m' s = m s) → post (-4) (nI n, yq, nI ng, ya, T', L', K, bo', bs', be', fa, fr, fe, hr, ft, hyA, vl, ee, wb))
    (hO : ∀ v, (tm_R (tm_sg n A Z) false (m (49 + 4 * (ng - 1))) t t 0).1 + (tm_R (tm_sg n A Z) false (m (49 + 4 * (ng - 1) + 1)) t t 0).1 ≠ 0 → fr_l (yf_p m hyv (49 + 4 * (ng - 1))) (8 * sv) v → ∀ T' L' bo' bs' be' m', cm_M 64 89 T' L' m' → m' (49 + 4 * (ng - 1)) = (tm_R (tm_sg n A Z) false (m (49 + 4 * (ng - 1))) t [tm_vc v] 0).2 → m' (49 + 4 * (ng - 1) + 1) = (tm_R (tm_sg n A Z) false (m (49 + 4 * (ng - 1) + 1)) t [tm_vc v] 0).2 → (∀ s, s < 81 → s ≠ 49 + 4 * (ng - 1) → s ≠ 49 + 4 * (ng - 1) + 1 → m' s = m s) → post (nI ng) (nI n, yq, nI ng, ya, T', L', K, bo', bs', be', fa, fr, fe, hr, ft, hyA, vl, ee, wb)) : wY_generalize_75 post (nI sv) (nI n) yq (nI ng) ya T L K bo bs be fa fr fe hr ft hyA vl ee wb := by
  unfold wY_generalize_75
  refine yp_top hg0 ?_
  have hpx : ((false : Bool) = true ∧ (1 : Int32) = 0) ∨ ((false : Bool) = false ∧ ¬ (1 : Int32) = 0) := Or.inr ⟨rfl, by decide⟩
  refine yp_repl (t := 82) (f := 87) (p := 87) (pat := false) (sf := sv) hS hg hM (by omega) (by omega) (by omega) (by omega) (by omega) (by omega) (by omega) w1 (by rw [h87]; exact hP) hpx wl1 (fun T1 L1 bo1 bs1 be1 hM1 => ?_)
  rw [h87] at hM1 ⊢
  generalize hl9 : tm_R (tm_sg n A Z) false (m (49 + 4 * (ng - 1))) t t 0 = l9 at *
  generalize hm1 : cm_set m 82 (l9.2.take 64) = m1 at hM1
  have f1 : ∀ s, s ≠ 82 → m1 s = m s := fun s a => by rw [← hm1, cm_set_n a]
  rw [nI_1]
  dsimp only
  refine yp_repl (t := 83) (f := 87) (p := 87) (pat := false) (sf := sv) hS hg hM1 (by omega) (by omega) (by omega) (by omega) (by omega) (by omega) (by omega) (by rw [f1 _ (by omega)]; exact w2) (by rw [f1 _ (by omega), h87]; exact hP) hpx (by rw [f1 _ (by omega)]; exact wl2) (fun T2 L2 bo2 bs2 be2 hM2 => ?_)
  rw [f1 87 (by omega), f1 (49 + 4 * (ng - 1) + 1) (by omega), h87] at hM2 ⊢
  have c1 := tm_R_cnt (g := tm_sg n A Z) (pat := false) (w := m (49 + 4 * (ng - 1))) (fr := t) (to := t) _ 0 (Nat.le_refl _)
  have c2 := tm_R_cnt (g := tm_sg n A Z) (pat := false) (w := m (49 + 4 * (ng - 1) + 1)) (fr := t) (to := t) _ 0 (Nat.le_refl _)
  rw [hl9] at c1
  generalize hr9 : tm_R (tm_sg n A Z) false (m (49 + 4 * (ng - 1) + 1)) t t 0 = r9 at *
  generalize hm2 : cm_set m1 83 (r9.2.take 64) = m2 at hM2
  have f2 : ∀ s, s < 82 → m2 s = m s := fun s a => by rw [← hm2, cm_set_n (by omega), f1 s (by omega)]
  have g87 : m2 87 = t := by rw [← hm2, cm_set_n (by omega), f1 _ (by omega), h87]
  rw [nI_add]
  dsimp only
  refine nm_e (pk_eq (l9.1 + r9.1) 0 (fun z => hN z T2 L2 bo2 bs2 be2 m2 hM2 (fun s a => f2 s (by omega))) (fun z => ?_))
  have hyf : ∀ v, yf_p m2 hyv (49 + 4 * (ng - 1)) v ↔ yf_p m hyv (49 + 4 * (ng - 1)) v := by
    intro v
    unfold yf_p
    rw [f2 _ (by omega), f2 _ (by omega), f2 _ (by omega), f2 _ (by omega)]
  refine yp_fresh (hyv := hyv) hM2 hg0 hg8 hsv hh (fun v hv => ?_) (fun hv => br_f (by decide) (hU z (fun v a b => (hyf v).mp (hv v a b)) T2 L2 bo2 bs2 be2 m2 hM2 (fun s a => f2 s (by omega))))
  have hv16 : v < 16 := by
    have := hv.2.1
    omega
  have hv2 : fr_l (yf_p m hyv (49 + 4 * (ng - 1))) (8 * sv) v := ⟨hv.1, hv.2.1, fun y => hv.2.2.1 ((hyf v).mpr y), fun u a b => (hyf u).mp (hv.2.2.2 u a b)⟩
  refine br_t (nI_pos' (by omega)) (nm_e ?_)
  have hM3 := cm_nil hM2 (s := 88) (by omega)
  refine yp_vch hv16 ?_
  refine yp_put (s := 88) hM3 (by omega) (tm_vc_lt hv16) (fun T4 L4 hM4 => ?_)
  rw [cm_set_s, cm_set_set, List.nil_append, cm_tl (K := 64) (by rw [List.length_singleton]; omega)] at hM4
  generalize hm4 : cm_set m2 88 [tm_vc v] = m4 at hM4
  have f4 : ∀ s, s < 82 → m4 s = m s := fun s a => by rw [← hm4, cm_set_n (by omega), f2 s a]
  have h487 : m4 87 = t := by rw [← hm4, cm_set_n (by omega), g87]
  have h488 : m4 88 = [tm_vc v] := by rw [← hm4, cm_set_s]
  have l1 := tm_R_len1 (g := tm_sg n A Z) (w := m (49 + 4 * (ng - 1))) (fr := t) (to := [tm_vc v]) rfl _ 0 (Nat.le_refl _)
  have l2 := tm_R_len1 (g := tm_sg n A Z) (w := m (49 + 4 * (ng - 1) + 1)) (fr := t) (to := [tm_vc v]) rfl _ 0 (Nat.le_refl _)
  dsimp only
  refine yp_repl (t := 82) (f := 87) (p := 88) (pat := false) (sf := sv) hS hg hM4 (by omega) (by omega) (by omega) (by omega) (by omega) (by omega) (by omega) (by rw [f4 _ (by omega)]; exact w1) (by rw [h487]; exact hP) hpx (by rw [f4 _ (by omega)]; exact wl1) (fun T5 L5 bo5 bs5 be5 hM5 => ?_)
  rw [h487, h488, f4 (49 + 4 * (ng - 1)) (by omega), cm_tl (by omega)] at hM5
  generalize hm5 : cm_set m4 82 _ = m5 at hM5
  have f5 : ∀ s, s ≠ 82 → m5 s = m4 s := fun s a => by rw [← hm5, cm_set_n a]
  have h582 : m5 82 = (tm_R (tm_sg n A Z) false (m (49 + 4 * (ng - 1))) t [tm_vc v] 0).2 := by rw [← hm5, cm_set_s]
  dsimp only
  refine yp_repl (t := 83) (f := 87) (p := 88) (pat := false) (sf := sv) hS hg hM5 (by omega) (by omega) (by omega) (by omega) (by omega) (by omega) (by omega) (by rw [f5 _ (by omega), f4 _ (by omega)]; exact w2) (by rw [f5 _ (by omega), h487]; exact hP) hpx (by rw [f5 _ (by omega), f4 _ (by omega)]; exact wl2) (fun T6 L6 bo6 bs6 be6 hM6 => ?_)
  rw [f5 87 (by omega), f5 88 (by omega), h487, h488, f5 (49 + 4 * (ng - 1) + 1) (by omega), f4 (49 + 4 * (ng - 1) + 1) (by omega), cm_tl (by omega)] at hM6
  generalize hm6 : cm_set m5 83 _ = m6 at hM6
  have f6 : ∀ s, s < 82 → m6 s = m s := fun s a => by rw [← hm6, cm_set_n (by omega), f5 _ (by omega), f4 s a]
  have h682 : m6 82 = (tm_R (tm_sg n A Z) false (m (49 + 4 * (ng - 1))) t [tm_vc v] 0).2 := by rw [← hm6, cm_set_n (by omega), h582]
  have h683 : m6 83 = (tm_R (tm_sg n A Z) false (m (49 + 4 * (ng - 1) + 1)) t [tm_vc v] 0).2 := by rw [← hm6, cm_set_s]
  dsimp only
  refine yp_copy (s := 82) hM6 (by omega) (by omega) (by omega) (fun T7 L7 hM7 => ?_)
  rw [h682] at hM7
  dsimp only
  refine yp_copy (s := 83) hM7 (by omega) (by omega) (by omega) (fun T8 L8 hM8 => ?_)
  rw [cm_set_n (j := 83) (by omega), h683] at hM8
  dsimp only
  refine hO v z hv2 T8 L8 bo6 bs6 be6 _ hM8 ?_ cm_set_s ?_
  · rw [cm_set_n (by omega), cm_set_s]
  · intro s a b c
    rw [cm_set_n c, cm_set_n b, f6 s (by omega)]
set_option maxHeartbeats 400000 in
theorem yp_gen {post : Int32 → SY → Prop} {s1 s2 : Nat} {hyv : Bool} (hS : tm_SG n A Z) (hg : sg_Y n A Z fa fr fe) (hM : cm_M 64 89 T L m) (h48 : (m 0).length ≤ 48) (hg8 : ng ≤ 8) (hact : ya = -1 ∨ (∃ k, k < 8 ∧ ya = nI k ∧ 1 ≤ ng)) (w1 : 1 ≤ ng → tm_P (tm_sg n A Z) [s1] (m (49 + 4 * (ng - 1)))) (w2 : 1 ≤ ng → tm_P (tm_sg n A Z) [s2] (m (49 + 4 * (ng - 1) + 1))) (wl1 : 1 ≤ ng → (m (49 + 4 * (ng - 1))).length ≤ 48) (wl2 : 1 ≤ ng → (m (49 + 4 * (ng - 1) + 1)).length ≤ 48) (hh : 1 ≤ ng → hyA (ng - 1) = if hyv = true then 1 else 0)
    (hA : ya = -1 → ∀ T' L' K' bo' bs' be' m', cm_M 64 89 T' L' m' → m' 0 = [] → (∀ s, 1 ≤ s → s < 81 → m' s = m s) → post (-5) (nI n, yq, nI ng, ya, T', L', K', bo', bs', be', fa, fr, fe, hr, ft, hyA, vl, ee, wb))
    (hSy : ya ≠ -1 → tm_ts (tm_sg n A Z) (m 0) = none → ∀ T' L' K' bo' bs' be' m', cm_M 64 89 T' L' m' → m' 0 = [] → (∀ s, 1 ≤ s → s < 81 → m' s = m s) → post (-1) (nI n, yq, nI ng, ya, T', L', K', bo', bs', be', fa, fr, fe, hr, ft, hyA, vl, ee, wb))
    (hF : ∀ sv, ya ≠ -1 → tm_ts (tm_sg n A Z) (m 0) = some sv → (m 0).length = 1 ∧ tm_vn (tm_at (m 0) 0) ≠ none → ∀ T' L' K' bo' bs' be' m', cm_M 64 89 T' L' m' → m' 0 = [] → (∀ s, 1 ≤ s → s < 81 → m' s = m s) → post (-2) (nI n, yq, nI ng, ya, T', L', K', bo', bs', be', fa, fr, fe, hr, ft, hyA, vl, ee, wb))
    (hN : ∀ sv, ya ≠ -1 → tm_ts (tm_sg n A Z) (m 0) = some sv → ¬ ((m 0).length = 1 ∧ tm_vn (tm_at (m 0) 0) ≠ none) → (tm_R (tm_sg n A Z) false (m (49 + 4 * (ng - 1))) (m 0) (m 0) 0).1 + (tm_R (tm_sg n A Z) false (m (49 + 4 * (ng - 1) + 1)) (m 0) (m 0) 0).1 = 0 → ∀ T' L' K' bo' bs' be' m', cm_M 64 89 T' L' m' → m' 0 = [] → (∀ s, 1 ≤ s → s < 81 → m' s = m s) → post (-8) (nI n, yq, nI ng, ya, T', L', K', bo', bs', be', fa, fr, fe, hr, ft, hyA, vl, ee, wb))
    (hU : ∀ sv, ya ≠ -1 → tm_ts (tm_sg n A Z) (m 0) = some sv → ¬ ((m 0).length = 1 ∧ tm_vn (tm_at (m 0) 0) ≠ none) → (tm_R (tm_sg n A Z) false (m (49 + 4 * (ng - 1))) (m 0) (m 0) 0).1 + (tm_R (tm_sg n A Z) false (m (49 + 4 * (ng - 1) + 1)) (m 0) (m 0) 0).1 ≠ 0 → (∀ v, 8 * sv ≤ v → v < 8 * sv + 8 → yf_p m hyv (49 + 4 * (ng - 1)) v) → ∀ T' L' K' bo' bs' be' m', cm_M 64 89 T' L' m' → m' 0 = [] → (∀ s, 1 ≤ s → s < 81 → m' s = m s) → post (-4) (nI n, yq, nI ng, ya, T', L', K', bo', bs', be', fa, fr, fe, hr, ft, hyA, vl, ee, wb))
    (hO : ∀ sv v, ya ≠ -1 → tm_ts (tm_sg n A Z) (m 0) = some sv → ¬ ((m 0).length = 1 ∧ tm_vn (tm_at (m 0) 0) ≠ none) → (tm_R (tm_sg n A Z) false (m (49 + 4 * (ng - 1))) (m 0) (m 0) 0).1 + (tm_R (tm_sg n A Z) false (m (49 + 4 * (ng - 1) + 1)) (m 0) (m 0) 0).1 ≠ 0 → fr_l (yf_p m hyv (49 + 4 * (ng - 1))) (8 * sv) v → ∀ T' L' K' bo' bs' be' m', cm_M 64 89 T' L' m' → m' 0 = [] → m' (49 + 4 * (ng - 1)) = (tm_R (tm_sg n A Z) false (m (49 + 4 * (ng - 1))) (m 0) [tm_vc v] 0).2 → m' (49 + 4 * (ng - 1) + 1) = (tm_R (tm_sg n A Z) false (m (49 + 4 * (ng - 1) + 1)) (m 0) [tm_vc v] 0).2 → (∀ s, 1 ≤ s → s < 81 → s ≠ 49 + 4 * (ng - 1) → s ≠ 49 + 4 * (ng - 1) + 1 → m' s = m s) → post (nI ng) (nI n, yq, nI ng, ya, T', L', K', bo', bs', be', fa, fr, fe, hr, ft, hyA, vl, ee, wb)) : wpY_generalize post (nI n, yq, nI ng, ya, T, L, K, bo, bs, be, fa, fr, fe, hr, ft, hyA, vl, ee, wb) := by
  unfold wpY_generalize
  dsimp only
  refine yp_copy (s := 0) (d := 87) hM (by omega) (by omega) (by omega) (fun T1 L1 hM1 => ?_)
  have hM2 := cm_nil hM1 (s := 0) (by omega)
  generalize hm2 : cm_set (cm_set m 87 (m 0)) 0 [] = m2 at hM2
  have h87 : m2 87 = m 0 := by rw [← hm2, cm_set_n (by omega), cm_set_s]
  have e0 : m2 0 = [] := by rw [← hm2, cm_set_s]
  have hfr : ∀ s, 1 ≤ s → s < 81 → m2 s = m s := fun s a b => by rw [← hm2, cm_set_n (by omega), cm_set_n (by omega)]
  refine nm_e ?_
  dsimp only
  rcases hact with hx | ⟨k, hk, hx, hg0⟩
  · exact br_f (by rw [hx]; decide) (hA hx T1 _ K bo bs be m2 hM2 e0 hfr)
  · have hne : ya ≠ -1 := by rw [hx]; exact xi_neg (by omega)
    refine br_t (by rw [hx]; exact nI_pos' (by omega)) ?_
    have hl87 := cm_len hM2 (s := 87) (by omega)
    rw [h87] at hl87
    rw [hl87]
    have htt : ((m2 87).take (m 0).length).drop 0 = m 0 := by rw [h87, cm_tl (Nat.le_refl _), List.drop_zero]
    refine yp_sort (s := 87) (a := 0) hS hg hM2 (by omega) (by rw [h87]; exact Nat.le_refl _) h48 (by omega) ?_ ?_
    · rw [htt]
      intro sv hts K1
      have p1 := tm_ts_P.mp hts
      have hsv := yi_sv hS p1
      have hb0 := cm_b hM2 (s := 87) (by omega) 0
      rw [h87] at hb0
      refine br_t (nI_pos' (by omega)) ?_
      dsimp only
      refine yp_c (s := 87) (i := 0) hM2 (by omega) (by omega) ?_
      rw [h87, hl87]
      have h75 : ¬ ((m 0).length = 1 ∧ tm_vn (tm_at (m 0) 0) ≠ none) → wY_generalize_75 post (nI sv) (nI n) yq (nI ng) ya T1 (upd L1 0 0) K1 bo bs be fa fr fe hr ft hyA vl ee wb := by
        intro hns
        have a0 := hfr (49 + 4 * (ng - 1)) (by omega) (by omega)
        have a1 := hfr (49 + 4 * (ng - 1) + 1) (by omega) (by omega)
        have hyf : ∀ v, yf_p m2 hyv (49 + 4 * (ng - 1)) v ↔ yf_p m hyv (49 + 4 * (ng - 1)) v := by
          intro v
          unfold yf_p
          rw [a0, a1, hfr _ (by omega) (by omega), hfr _ (by omega) (by omega)]
        refine yl_75 (t := m 0) (s1 := s1) (s2 := s2) (hyv := hyv) hS hg hM2 hg0 hg8 h87 p1 hsv (by rw [a0]; exact w1 hg0) (by rw [a1]; exact w2 hg0) (by rw [a0]; exact wl1 hg0) (by rw [a1]; exact wl2 hg0) (hh hg0) ?_ ?_ ?_
        · rw [a0, a1]
          intro z T3 L3 bo3 bs3 be3 m3 hM3 f3
          exact hN sv hne hts hns z T3 L3 K1 bo3 bs3 be3 m3 hM3 (by rw [f3 0 (by omega), e0]) (fun s a b => by rw [f3 s b, hfr s a b])
        · rw [a0, a1]
          intro z hv T3 L3 bo3 bs3 be3 m3 hM3 f3
          exact hU sv hne hts hns z (fun v a b => (hyf v).mp (hv v a b)) T3 L3 K1 bo3 bs3 be3 m3 hM3 (by rw [f3 0 (by omega), e0]) (fun s a b => by rw [f3 s b, hfr s a b])
        · rw [a0, a1]
          intro v z hv T3 L3 bo3 bs3 be3 m3 hM3 r1 r2 f3
          exact hO sv v hne hts hns z ⟨hv.1, hv.2.1, fun y => hv.2.2.1 ((hyf v).mpr y), fun u a b => (hyf u).mp (hv.2.2.2 u a b)⟩ T3 L3 K1 bo3 bs3 be3 m3 hM3 (by rw [f3 0 (by omega) (by omega) (by omega), e0]) r1 r2 (fun s a b c d => by rw [f3 s b c d, hfr s a b])
      refine pk_eq (m 0).length 1 (fun z => ?_) (fun z => h75 (fun y => z y.1))
      exact yp_vnum (by omega) (fun v hv hv16 => br_f (nI_pos (by omega)) (hF sv hne hts ⟨z, by rw [hv]; exact Option.some_ne_none v⟩ T1 _ K1 bo bs be m2 hM2 e0 hfr)) (fun hv => br_t (by decide) (h75 (fun y => y.2 hv)))
    · rw [htt]
      intro hts K1
      exact br_f (by decide) (hSy hne hts T1 _ K1 bo bs be m2 hM2 e0 hfr)
end YI
end
section
/-! 29: the reference: induct -/
section YJ
variable {yn yq yg ya : Int32} {T L K bo bs be fa fr fe hr ft hyA vl ee wb : Nat → Int32} {m : Nat → List Nat} {n ng q : Nat} {A : Nat → List Nat} {Z : Nat → Nat} {R : Nat → List Nat}
theorem yi_Pv {v : Nat} (hv : v < 16) : tm_P (tm_sg n A Z) [if v < 8 then 0 else 1] [tm_vc v] := ⟨[], _, [], tm_sg_V (tm_vn_vc hv), rfl, rfl⟩
set_option maxHeartbeats 400000 in
theorem yl_171 {post : Int32 → SY → Prop} {s0 v c s1 s2 : Nat} {to : List Nat} (hS : tm_SG n A Z) (hg : sg_Y n A Z fa fr fe) (hM : cm_M 64 89 T L m) (hg0 : 1 ≤ ng) (hg8 : ng < 8) (hs0 : s0 = 49 + 4 * (ng - 1)) (hv : v < 16) (hc : c < 256) (h86 : m 86 = to) (h87 : m 87 = []) (w1 : tm_P (tm_sg n A Z) [s1] (m s0)) (w2 : tm_P (tm_sg n A Z) [s2] (m (s0 + 1))) (wl1 : (m s0).length ≤ 48) (wl2 : (m (s0 + 1)).length ≤ 48)
    (hL : 48 < (tm_R (tm_sg n A Z) false (m s0) [tm_vc v] to 0).2.length ∨ 48 < (tm_R (tm_sg n A Z) false (m (s0 + 1)) [tm_vc v] to 0).2.length → ∀ T' L' bo' bs' be' m', cm_M 64 89 T' L' m' → (∀ s, s < 81 → m' s = m s) → post (-7) (nI n, yq, nI ng, ya, T', L', K, bo', bs', be', fa, fr, fe, hr, ft, hyA, vl, ee, wb))
    (hO : (tm_R (tm_sg n A Z) false (m s0) [tm_vc v] to 0).2.length ≤ 48 → (tm_R (tm_sg n A Z) false (m (s0 + 1)) [tm_vc v] to 0).2.length ≤ 48 → ∀ T' L' bo' bs' be' m', cm_M 64 89 T' L' m' → m' s0 = (tm_R (tm_sg n A Z) false (m s0) [tm_vc v] to 0).2 → m' (s0 + 1) = (tm_R (tm_sg n A Z) false (m (s0 + 1)) [tm_vc v] to 0).2 → m' (s0 + 2) = m s0 → m' (s0 + 3) = m (s0 + 1) → m' (s0 + 4) = (tm_R (tm_sg n A Z) false (m s0) [tm_vc v] [c] 0).2 → m' (s0 + 5) = (tm_R (tm_sg n A Z) false (m (s0 + 1)) [tm_vc v] [c] 0).2 →
      (∀ s, s < 81 → s < s0 ∨ s0 + 7 < s → m' s = m s) → post (nI (ng + 1)) (nI n, yq, nI (ng + 1), ya, T', L', K, bo', bs', be', fa, fr, fe, hr, ft, upd (upd hyA (ng - 1) 1) ng 0, vl, ee, wb)) : wY_induct_171 post (nI s0) (nI (tm_vc v)) (nI c) (nI 87) (nI n) yq (nI ng) ya T L K bo bs be fa fr fe hr ft hyA vl ee wb := by
  unfold wY_induct_171
  have hb : s0 + 7 < 81 := by omega
  have hb0 : 49 ≤ s0 := by omega
  clear hs0
  have hpx : ((false : Bool) = true ∧ (1 : Int32) = 0) ∨ ((false : Bool) = false ∧ ¬ (1 : Int32) = 0) := Or.inr ⟨rfl, by decide⟩
  have hPv := yi_Pv (n := n) (A := A) (Z := Z) hv
  refine yp_put (s := 87) hM (by omega) hc (fun T1 L1 hM1 => ?_)
  rw [h87, List.nil_append, cm_tl (K := 64) (by rw [List.length_singleton]; omega)] at hM1
  have hM2 := cm_nil hM1 (s := 88) (by omega)
  refine nm_e ?_
  dsimp only
  refine yp_put (s := 88) hM2 (by omega) (tm_vc_lt hv) (fun T3 L3 hM3 => ?_)
  rw [cm_set_s, cm_set_set, List.nil_append, cm_tl (K := 64) (by rw [List.length_singleton]; omega)] at hM3
  generalize hm3 : cm_set (cm_set m 87 [c]) 88 [tm_vc v] = m3 at hM3
  have f3 : ∀ s, s < 87 → m3 s = m s := fun s a => by rw [← hm3, cm_set_n (by omega), cm_set_n (by omega)]
  have k87 : m3 87 = [c] := by rw [← hm3, cm_set_n (by omega), cm_set_s]
  have k88 : m3 88 = [tm_vc v] := by rw [← hm3, cm_set_s]
  have k86 : m3 86 = to := by rw [f3 86 (by omega), h86]
  have l1 := tm_R_len1 (g := tm_sg n A Z) (w := m s0) (fr := [tm_vc v]) (to := [c]) rfl _ 0 (Nat.le_refl _)
  have l2 := tm_R_len1 (g := tm_sg n A Z) (w := m (s0 + 1)) (fr := [tm_vc v]) (to := [c]) rfl _ 0 (Nat.le_refl _)
  dsimp only
  refine yp_repl (t := 82) (f := 88) (p := 86) (pat := false) hS hg hM3 (by omega) (by omega) (by omega) (by omega) (by omega) (by omega) (by omega) (by rw [f3 _ (by omega)]; exact w1) (by rw [k88]; exact hPv) hpx (by rw [f3 _ (by omega)]; exact wl1) (fun T4 L4 bo4 bs4 be4 hM4 => ?_)
  rw [k88, k86, f3 s0 (by omega)] at hM4
  generalize hla : (tm_R (tm_sg n A Z) false (m s0) [tm_vc v] to 0).2 = la at *
  generalize hm4 : cm_set m3 82 (la.take 64) = m4 at hM4
  have f4 : ∀ s, s ≠ 82 → m4 s = m3 s := fun s a => by rw [← hm4, cm_set_n a]
  have d82 : m4 82 = la.take 64 := by rw [← hm4, cm_set_s]
  rw [nI_1 s0]
  dsimp only
  refine yp_repl (t := 83) (f := 88) (p := 86) (pat := false) hS hg hM4 (by omega) (by omega) (by omega) (by omega) (by omega) (by omega) (by omega) (by rw [f4 _ (by omega), f3 _ (by omega)]; exact w2) (by rw [f4 _ (by omega), k88]; exact hPv) hpx (by rw [f4 _ (by omega), f3 _ (by omega)]; exact wl2) (fun T5 L5 bo5 bs5 be5 hM5 => ?_)
  rw [f4 88 (by omega), f4 86 (by omega), k88, k86, f4 (s0 + 1) (by omega), f3 (s0 + 1) (by omega)] at hM5
  generalize hra : (tm_R (tm_sg n A Z) false (m (s0 + 1)) [tm_vc v] to 0).2 = ra at *
  generalize hm5 : cm_set m4 83 (ra.take 64) = m5 at hM5
  have f5 : ∀ s, s ≠ 83 → m5 s = m4 s := fun s a => by rw [← hm5, cm_set_n a]
  have d83 : m5 83 = ra.take 64 := by rw [← hm5, cm_set_s]
  dsimp only
  refine yp_repl (t := 84) (f := 88) (p := 87) (pat := false) hS hg hM5 (by omega) (by omega) (by omega) (by omega) (by omega) (by omega) (by omega) (by rw [f5 _ (by omega), f4 _ (by omega), f3 _ (by omega)]; exact w1) (by rw [f5 _ (by omega), f4 _ (by omega), k88]; exact hPv) hpx (by rw [f5 _ (by omega), f4 _ (by omega), f3 _ (by omega)]; exact wl1) (fun T6 L6 bo6 bs6 be6 hM6 => ?_)
  rw [f5 88 (by omega), f5 87 (by omega), f4 88 (by omega), f4 87 (by omega), k88, k87, f5 s0 (by omega), f4 s0 (by omega), f3 s0 (by omega), cm_tl (by omega)] at hM6
  generalize hlb : (tm_R (tm_sg n A Z) false (m s0) [tm_vc v] [c] 0).2 = lb at *
  generalize hm6 : cm_set m5 84 lb = m6 at hM6
  have f6 : ∀ s, s ≠ 84 → m6 s = m5 s := fun s a => by rw [← hm6, cm_set_n a]
  have d84 : m6 84 = lb := by rw [← hm6, cm_set_s]
  dsimp only
  refine yp_repl (t := 85) (f := 88) (p := 87) (pat := false) hS hg hM6 (by omega) (by omega) (by omega) (by omega) (by omega) (by omega) (by omega) (by rw [f6 _ (by omega), f5 _ (by omega), f4 _ (by omega), f3 _ (by omega)]; exact w2) (by rw [f6 _ (by omega), f5 _ (by omega), f4 _ (by omega), k88]; exact hPv) hpx (by rw [f6 _ (by omega), f5 _ (by omega), f4 _ (by omega), f3 _ (by omega)]; exact wl2) (fun T7 L7 bo7 bs7 be7 hM7 => ?_)
  rw [f6 88 (by omega), f6 87 (by omega), f5 88 (by omega), f5 87 (by omega), f4 88 (by omega), f4 87 (by omega), k88, k87, f6 (s0 + 1) (by omega), f5 (s0 + 1) (by omega), f4 (s0 + 1) (by omega), f3 (s0 + 1) (by omega), cm_tl (by omega)] at hM7
  generalize hrb : (tm_R (tm_sg n A Z) false (m (s0 + 1)) [tm_vc v] [c] 0).2 = rb at *
  generalize hm7 : cm_set m6 85 rb = m7 at hM7
  have f7 : ∀ s, s < 81 → m7 s = m s := fun s a => by rw [← hm7, cm_set_n (by omega), f6 _ (by omega), f5 _ (by omega), f4 _ (by omega), f3 _ (by omega)]
  have e82 : m7 82 = la.take 64 := by rw [← hm7, cm_set_n (by omega), f6 _ (by omega), f5 _ (by omega), d82]
  have e83 : m7 83 = ra.take 64 := by rw [← hm7, cm_set_n (by omega), f6 _ (by omega), d83]
  have e84 : m7 84 = lb := by rw [← hm7, cm_set_n (by omega), d84]
  have e85 : m7 85 = rb := by rw [← hm7, cm_set_s]
  clear hm3 hm4 hm5 hm6 hm7 f3 f4 f5 f6 k86 k87 k88 d82 d83 d84 hM1 hM2 hM3 hM4 hM5 hM6
  have n82 := cm_len hM7 (s := 82) (by omega)
  have n83 := cm_len hM7 (s := 83) (by omega)
  have n84 := cm_len hM7 (s := 84) (by omega)
  have n85 := cm_len hM7 (s := 85) (by omega)
  rw [e82, List.length_take] at n82
  rw [e83, List.length_take] at n83
  rw [e84] at n84
  rw [e85] at n85
  dsimp only
  rw [n82, n83, n84, n85]
  refine pk_lt 48 (min 64 la.length) (fun y => hL (Or.inl (by omega)) T7 L7 bo7 bs7 be7 m7 hM7 f7) (fun y1 => pk_lt 48 (min 64 ra.length) (fun y => hL (Or.inr (by omega)) T7 L7 bo7 bs7 be7 m7 hM7 f7) (fun y2 => ?_))
  refine br_f (by rw [show (48 : Int32) = nI 48 from rfl, nI_ltI (by omega) (by omega)]; omega) (br_t (by rw [show (48 : Int32) = nI 48 from rfl, nI_leI (by omega) (by omega)]; omega) ?_)
  rw [cm_tl (by omega)] at e82 e83
  rw [show nI s0 + 2 = nI (s0 + 2) from nI_add _ 2, show nI s0 + 3 = nI (s0 + 3) from nI_add _ 3, show nI s0 + 4 = nI (s0 + 4) from nI_add _ 4, show nI s0 + 5 = nI (s0 + 5) from nI_add _ 5, show nI s0 + 6 = nI (s0 + 6) from nI_add _ 6, show nI s0 + 7 = nI (s0 + 7) from nI_add _ 7]
  refine yp_copy (s := s0) (d := s0 + 2) hM7 (by omega) (by omega) (by omega) (fun T8 L8 hM8 => ?_)
  dsimp only
  refine yp_copy (s := s0 + 1) (d := s0 + 3) hM8 (by omega) (by omega) (by omega) (fun T9 L9 hM9 => ?_)
  dsimp only
  rw [xi_m1 hg0, nI_clamp (n := ng - 1) (by omega), yi_b1, yi_b0]
  refine ⟨vp_in_nI (by omega) (by omega), nm_e ?_⟩
  refine yp_copy (s := 82) (d := s0) hM9 (by omega) (by omega) (by omega) (fun Ta La hMa => ?_)
  dsimp only
  refine yp_copy (s := 83) (d := s0 + 1) hMa (by omega) (by omega) (by omega) (fun Tb Lb hMb => ?_)
  dsimp only
  refine yp_copy (s := 84) (d := s0 + 4) hMb (by omega) (by omega) (by omega) (fun Tc Lc hMc => ?_)
  dsimp only
  refine yp_copy (s := 85) (d := s0 + 5) hMc (by omega) (by omega) (by omega) (fun Td Ld hMd => ?_)
  dsimp only
  rw [nI_clamp (n := s0 + 6) (by omega), nI_clamp (n := s0 + 7) (by omega), nI_clamp (n := ng) (by omega), nI_1 ng]
  refine ⟨vp_in_nI (by omega) (by omega), nm_e ⟨vp_in_nI (by omega) (by omega), nm_e ⟨vp_in_nI (by omega) (by omega), nm_e (nm_e ?_)⟩⟩⟩
  have hMe := cm_nil (cm_nil hMd (s := s0 + 6) (by omega)) (s := s0 + 7) (by omega)
  simp (disch := omega) only [cm_set_s, cm_set_n, e82, e83, e84, e85, f7] at hMe
  refine hO (by omega) (by omega) Td _ bo7 bs7 be7 _ hMe ?_ ?_ ?_ ?_ ?_ ?_ ?_
  · simp (disch := omega) only [cm_set_s, cm_set_n]
  · simp (disch := omega) only [cm_set_s, cm_set_n]
  · simp (disch := omega) only [cm_set_s, cm_set_n]
  · simp (disch := omega) only [cm_set_s, cm_set_n]
  · simp (disch := omega) only [cm_set_s, cm_set_n]
  · simp (disch := omega) only [cm_set_s, cm_set_n]
  · intro s h1 h2
    simp (disch := omega) only [cm_set_s, cm_set_n, f7]
set_option maxHeartbeats 400000 in
theorem yp_induct {post : Int32 → SY → Prop} {k v s1 s2 : Nat} {hyv : Bool} (hk : k < 8) (hv : v < 16) (hS : tm_SG n A Z) (hg : sg_Y n A Z fa fr fe) (hM : cm_M 64 89 T L m) (hg0 : 1 ≤ ng) (hg8 : ng ≤ 8) (w1 : tm_P (tm_sg n A Z) [s1] (m (49 + 4 * (ng - 1)))) (w2 : tm_P (tm_sg n A Z) [s2] (m (49 + 4 * (ng - 1) + 1))) (wl1 : (m (49 + 4 * (ng - 1))).length ≤ 48) (wl2 : (m (49 + 4 * (ng - 1) + 1)).length ≤ 48) (hh : hyA (ng - 1) = if hyv = true then 1 else 0)
    (hA : ¬ (tm_vc v ∈ m (49 + 4 * (ng - 1)) ∨ tm_vc v ∈ m (49 + 4 * (ng - 1) + 1)) → post (-6) (nI n, yq, nI ng, nI k, T, L, K, bo, bs, be, fa, fr, fe, hr, ft, hyA, vl, ee, wb))
    (hU : tm_vc v ∈ m (49 + 4 * (ng - 1)) ∨ tm_vc v ∈ m (49 + 4 * (ng - 1) + 1) → ng = 8 ∨ (8 ≤ v ∧ ∀ u, 8 * 0 ≤ u → u < 8 * 0 + 8 → yf_p m hyv (49 + 4 * (ng - 1)) u) → ∀ T' L' m', cm_M 64 89 T' L' m' → (∀ s, s < 81 → m' s = m s) → post (-4) (nI n, yq, nI ng, nI k, T', L', K, bo, bs, be, fa, fr, fe, hr, ft, hyA, vl, ee, wb))
    (hL : ∀ hh, tm_vc v ∈ m (49 + 4 * (ng - 1)) ∨ tm_vc v ∈ m (49 + 4 * (ng - 1) + 1) → ng < 8 → (8 ≤ v → fr_l (yf_p m hyv (49 + 4 * (ng - 1))) (8 * 0) hh) → 48 < (tm_R (tm_sg n A Z) false (m (49 + 4 * (ng - 1))) [tm_vc v] (tm_to v hh) 0).2.length ∨ 48 < (tm_R (tm_sg n A Z) false (m (49 + 4 * (ng - 1) + 1)) [tm_vc v] (tm_to v hh) 0).2.length → ∀ T' L' bo' bs' be' m', cm_M 64 89 T' L' m' → (∀ s, s < 81 → m' s = m s) → post (-7) (nI n, yq, nI ng, nI k, T', L', K, bo', bs', be', fa, fr, fe, hr, ft, hyA, vl, ee, wb))
    (hO : ∀ hh, tm_vc v ∈ m (49 + 4 * (ng - 1)) ∨ tm_vc v ∈ m (49 + 4 * (ng - 1) + 1) → ng < 8 → (8 ≤ v → fr_l (yf_p m hyv (49 + 4 * (ng - 1))) (8 * 0) hh) → (tm_R (tm_sg n A Z) false (m (49 + 4 * (ng - 1))) [tm_vc v] (tm_to v hh) 0).2.length ≤ 48 → (tm_R (tm_sg n A Z) false (m (49 + 4 * (ng - 1) + 1)) [tm_vc v] (tm_to v hh) 0).2.length ≤ 48 → ∀ T' L' bo' bs' be' m', cm_M 64 89 T' L' m' → m' (49 + 4 * (ng - 1)) = (tm_R (tm_sg n A Z) false (m (49 + 4 * (ng - 1))) [tm_vc v] (tm_to v hh) 0).2 → m' (49 + 4 * (ng - 1) + 1) = (tm_R (tm_sg n A Z) false (m (49 + 4 * (ng - 1) + 1)) [tm_vc v] (tm_to v hh) 0).2 →
      m' (49 + 4 * (ng - 1) + 2) = m (49 + 4 * (ng - 1)) → m' (49 + 4 * (ng - 1) + 3) = m (49 + 4 * (ng - 1) + 1) → m' (49 + 4 * (ng - 1) + 4) = (tm_R (tm_sg n A Z) false (m (49 + 4 * (ng - 1))) [tm_vc v] (tm_ba v) 0).2 → m' (49 + 4 * (ng - 1) + 5) = (tm_R (tm_sg n A Z) false (m (49 + 4 * (ng - 1) + 1)) [tm_vc v] (tm_ba v) 0).2 →
      (∀ s, s < 81 → s < 49 + 4 * (ng - 1) ∨ 49 + 4 * (ng - 1) + 7 < s → m' s = m s) → post (nI (ng + 1)) (nI n, yq, nI (ng + 1), nI k, T', L', K, bo', bs', be', fa, fr, fe, hr, ft, upd (upd hyA (ng - 1) 1) ng 0, vl, ee, wb)) : wpY_induct post (nI n, yq, nI ng, nI k, T, L, K, bo, bs, be, fa, fr, fe, hr, ft, hyA, vl, ee, wb) (nI v) := by
  unfold wpY_induct
  dsimp only
  have hcv := tm_vc_lt hv
  refine br_t (nI_pos' (by omega)) (br_f (nI_pos (by omega)) (br_t (nI_le (b := 15) (by omega) (by decide)) ?_))
  refine yp_top hg0 ?_
  refine yp_vch hv ?_
  have h57 : tm_vc v ∈ m (49 + 4 * (ng - 1)) ∨ tm_vc v ∈ m (49 + 4 * (ng - 1) + 1) → wY_induct_57 post (nI v) (nI (49 + 4 * (ng - 1))) (nI (tm_vc v)) (nI n) yq (nI ng) (nI k) T L K bo bs be fa fr fe hr ft hyA vl ee wb := by
    intro hin
    unfold wY_induct_57
    refine pk_lt ng 8 (fun h8 => ?_) (fun h8 => hU hin (Or.inl (by omega)) T L m hM (fun _ _ => rfl))
    have hM1 := cm_nil hM (s := 86) (by omega)
    have h147 : ∀ hd T2 L2, (8 ≤ v → fr_l (yf_p m hyv (49 + 4 * (ng - 1))) (8 * 0) hd) → cm_M 64 89 T2 L2 (cm_set m 86 (tm_to v hd)) → wY_induct_147 post (nI v) (nI (49 + 4 * (ng - 1))) (nI (tm_vc v)) (nI n) yq (nI ng) (nI k) T2 L2 K bo bs be fa fr fe hr ft hyA vl ee wb := by
      intro hd T2 L2 hfr hM2
      unfold wY_induct_147
      have hM3 := cm_nil hM2 (s := 87) (by omega)
      generalize hm3 : cm_set (cm_set m 86 (tm_to v hd)) 87 [] = m3 at hM3
      have f3 : ∀ s, s < 86 → m3 s = m s := fun s a => by rw [← hm3, cm_set_n (by omega), cm_set_n (by omega)]
      have k86 : m3 86 = tm_to v hd := by rw [← hm3, cm_set_n (by omega), cm_set_s]
      have k87 : m3 87 = [] := by rw [← hm3, cm_set_s]
      have a0 := f3 (49 + 4 * (ng - 1)) (by omega)
      have a1 := f3 (49 + 4 * (ng - 1) + 1) (by omega)
      have hfin : ∀ c, c < 256 → tm_ba v = [c] → wY_induct_171 post (nI (49 + 4 * (ng - 1))) (nI (tm_vc v)) (nI c) (nI 87) (nI n) yq (nI ng) (nI k) T2 (upd L2 87 0) K bo bs be fa fr fe hr ft hyA vl ee wb := by
        intro c hc hb
        refine yl_171 (s1 := s1) (s2 := s2) (to := tm_to v hd) hS hg hM3 hg0 h8 rfl hv hc k86 k87 (by rw [a0]; exact w1) (by rw [a1]; exact w2) (by rw [a0]; exact wl1) (by rw [a1]; exact wl2) ?_ ?_
        · rw [a0, a1]
          intro z T4 L4 bo4 bs4 be4 m4 hM4 f4
          exact hL hd hin h8 hfr z T4 L4 bo4 bs4 be4 m4 hM4 (fun s a => by rw [f4 s a, f3 s (by omega)])
        · rw [a0, a1, ← hb]
          intro z1 z2 T4 L4 bo4 bs4 be4 m4 hM4 q1 q2 q3 q4 q5 q6 f4
          exact hO hd hin h8 hfr z1 z2 T4 L4 bo4 bs4 be4 m4 hM4 q1 q2 q3 q4 q5 q6 (fun s a b => by rw [f4 s a b, f3 s (by omega)])
      refine nm_e (pk_le 8 v (fun v8 => hfin 78 (by omega) (by unfold tm_ba; rw [if_neg (by omega)])) (fun v8 => hfin 90 (by omega) (by unfold tm_ba; rw [if_pos v8])))
    refine nm_e (pk_le 8 v (fun v8 => ?_) (fun v8 => ?_))
    · have hyf : ∀ u, yf_p (cm_set m 86 []) hyv (49 + 4 * (ng - 1)) u ↔ yf_p m hyv (49 + 4 * (ng - 1)) u := by
        intro u
        unfold yf_p
        rw [cm_set_n (by omega), cm_set_n (by omega), cm_set_n (by omega), cm_set_n (by omega)]
      refine yp_fresh (sv := 0) (hyv := hyv) hM1 hg0 hg8 (by omega) hh (fun hd hfr => ?_) (fun hno => br_f (by decide) (hU hin (Or.inr ⟨v8, fun u a b => (hyf u).mp (hno u a b)⟩) T _ _ hM1 (fun s a => cm_set_n (by omega))))
      have hd16 : hd < 16 := by
        have := hfr.2.1
        omega
      have hfr2 : fr_l (yf_p m hyv (49 + 4 * (ng - 1))) (8 * 0) hd := ⟨hfr.1, hfr.2.1, fun y => hfr.2.2.1 ((hyf hd).mpr y), fun u a b => (hyf u).mp (hfr.2.2.2 u a b)⟩
      refine br_t (nI_pos' (by omega)) ?_
      refine yp_vch hd16 ?_
      refine yp_put (s := 86) (c := 67) hM1 (by omega) (by omega) (fun T3 L3 hM3 => ?_)
      rw [cm_set_s, cm_set_set] at hM3
      dsimp only
      refine yp_put (s := 86) hM3 (by omega) (tm_vc_lt hd16) (fun T4 L4 hM4 => ?_)
      rw [cm_set_s, cm_set_set, cm_tt] at hM4
      dsimp only
      refine yp_put (s := 86) hM4 (by omega) hcv (fun T5 L5 hM5 => ?_)
      rw [cm_set_s, cm_set_set, cm_tt] at hM5
      dsimp only
      refine h147 hd T5 L5 (fun _ => hfr2) ?_
      unfold tm_to
      rw [if_neg (by omega)]
      exact hM5
    · refine yp_put (s := 86) (c := 83) hM1 (by omega) (by omega) (fun T3 L3 hM3 => ?_)
      rw [cm_set_s, cm_set_set] at hM3
      dsimp only
      refine yp_put (s := 86) hM3 (by omega) hcv (fun T5 L5 hM5 => ?_)
      rw [cm_set_s, cm_set_set, cm_tt] at hM5
      dsimp only
      refine h147 0 T5 L5 (fun z => by omega) ?_
      unfold tm_to
      rw [if_pos v8]
      exact hM5
  refine yp_occ hM (by omega) (by omega) (fun z => br_f (by decide) (h57 (Or.inl z))) (fun z => br_t rfl ?_)
  rw [nI_1 (49 + 4 * (ng - 1))]
  refine yp_occ hM (by omega) (by omega) (fun z2 => br_f (by decide) (h57 (Or.inr z2))) (fun z2 => br_t rfl (hA (fun y => ?_)))
  rcases y with y | y
  · exact z y
  · exact z2 y
end YJ
end
section
/-! 30: the reference: evaluate, feed -/
def ev_Y (val : Nat → Nat) (e2 : Nat → Nat → Nat) (vl ee : Nat → Int32) : Prop := ∀ v, v < 16 → vl v = nI (val v) ∧ val v ≤ 7 ∧ (8 ≤ v → val v ≤ 4 ∧ ∀ i, i < val v → e2 v i ≤ 3 ∧ ee ((v - 8) * 4 + i) = nI (e2 v i))
theorem tm_el_len {e : Nat → Nat} (k : Nat) : (∀ i, i < k → e i ≤ 3) → (tm_el e k).length ≤ 5 * k := by
  induction k with
  | zero => exact fun _ => Nat.le_refl _
  | succ k ih =>
    intro h
    have h1 := ih (fun i hi => h i (by omega))
    have h2 := h k (by omega)
    show (tm_el e k ++ (67 :: tm_nu (e k))).length ≤ _
    unfold tm_nu
    rw [List.length_append, List.length_cons, List.length_append, List.length_replicate, List.length_singleton]
    omega
theorem tm_vl_len {val : Nat → Nat} {e2 : Nat → Nat → Nat} {vl ee : Nat → Int32} (h : ev_Y val e2 vl ee) {v : Nat} (hv : v < 16) : (tm_vl val e2 v).length ≤ 30 := by
  obtain ⟨_, h7, h8⟩ := h v hv
  unfold tm_vl
  by_cases hv8 : v < 8
  · rw [if_pos hv8]
    unfold tm_nu
    rw [List.length_append, List.length_replicate, List.length_singleton]
    omega
  · rw [if_neg hv8]
    obtain ⟨h4, he⟩ := h8 (by omega)
    have := tm_el_len (e := e2 v) (val v) (fun i hi => (he i hi).1)
    rw [List.length_append, List.length_singleton]
    omega
theorem tm_gk_16 (val : Nat → Nat) (el : Nat → Nat → Nat) (w : List Nat) : ∀ d k, k + d = 16 → (tm_gk val el k w).length ≤ (tm_gk val el 16 w).length := by
  intro d
  induction d with
  | zero =>
    intro k h
    have : k = 16 := by omega
    rw [this]
    exact Nat.le_refl _
  | succ d ih =>
    intro k h
    exact Nat.le_trans (tm_gk_le val el (by omega) w) (ih (k + 1) (by omega))
section YK
variable {yn yq yg ya : Int32} {T L K bo bs be fa fr fe hr ft hyA vl ee wb : Nat → Int32} {m : Nat → List Nat} {n ng q : Nat} {A : Nat → List Nat} {Z : Nat → Nat} {R : Nat → List Nat} {val : Nat → Nat} {e2 : Nat → Nat → Nat}
set_option maxHeartbeats 200000 in
theorem yl_v16 {post : SY → Prop} {v : Nat} (hev : ev_Y val e2 vl ee) (hv : v < 8) (h : ∀ T' L', cm_M 64 89 T' L' (cm_set m 86 ((tm_vl val e2 v).take 64)) → post (yn, yq, yg, ya, T', L', K, bo, bs, be, fa, fr, fe, hr, ft, hyA, vl, ee, wb)) :
    ∀ f i T L, val v < f + i → i ≤ val v → cm_M 64 89 T L (cm_set m 86 ((List.replicate i 83).take 64)) → wY_valText_16 post (nI v) f (nI i) yn yq yg ya T L K bo bs be fa fr fe hr ft hyA vl ee wb := by
  obtain ⟨hvl, h7, _⟩ := hev v (by omega)
  intro f
  induction f with
  | zero => intro i T L a b; omega
  | succ f ih =>
    intro i T L a b hM
    rw [wY_valText_16]
    dsimp only
    rw [nI_clamp (n := v) (by omega), hvl]
    refine ⟨vp_in_nI (by omega) (by omega), pk_le (val v) i (fun hge => ?_) (fun hlt => ?_)⟩
    · have e : i = val v := by omega
      subst e
      unfold wY_valText_46
      refine yp_put (s := 86) (c := 90) hM (by omega) (by omega) (fun T1 L1 hM1 => ?_)
      rw [cm_set_s, cm_set_set, cm_tt] at hM1
      dsimp only
      apply h
      unfold tm_vl
      rw [if_pos hv]
      exact hM1
    · refine br_f (nI_ge (b := 8) (by omega) (by decide)) ?_
      refine yp_put (s := 86) (c := 83) hM (by omega) (by omega) (fun T1 L1 hM1 => ?_)
      rw [cm_set_s, cm_set_set, cm_tt, ← List.replicate_succ'] at hM1
      exact nm_r (nI_1 i) (ih (i + 1) T1 L1 (by omega) (by omega) hM1)
set_option maxHeartbeats 200000 in
theorem yl_v97 {post : SY → Prop} {J : Int32 → Int32 → Int32 → Int32 → Int32 → (Nat → Int32) → (Nat → Int32) → (Nat → Int32) → (Nat → Int32) → (Nat → Int32) → (Nat → Int32) → (Nat → Int32) → (Nat → Int32) → (Nat → Int32) → (Nat → Int32) → (Nat → Int32) → (Nat → Int32) → (Nat → Int32) → (Nat → Int32) → (Nat → Int32) → Prop} {x1 x2 : Int32} {k : Nat} {w : List Nat} (hk : k ≤ 3) (h : ∀ T' L', cm_M 64 89 T' L' (cm_set m 86 ((w ++ tm_nu k).take 64)) → J (x2 + 1) yn yq yg ya T' L' K bo bs be fa fr fe hr ft hyA vl ee wb) :
    ∀ f i T L, k < f + i → i ≤ k → cm_M 64 89 T L (cm_set m 86 ((w ++ List.replicate i 83).take 64)) → wY_valText_97 post J x1 x2 (nI k) f (nI i) yn yq yg ya T L K bo bs be fa fr fe hr ft hyA vl ee wb := by
  intro f
  induction f with
  | zero => intro i T L a b; omega
  | succ f ih =>
    intro i T L a b hM
    rw [wY_valText_97]
    dsimp only
    refine pk_le k i (fun hge => ?_) (fun hlt => ?_)
    · have e : i = k := by omega
      subst e
      unfold wY_valText_123
      refine yp_put (s := 86) (c := 90) hM (by omega) (by omega) (fun T1 L1 hM1 => ?_)
      rw [cm_set_s, cm_set_set, cm_tt, List.append_assoc] at hM1
      exact nm_e (h T1 L1 hM1)
    · refine br_f (nI_ge (b := 4) (by omega) (by decide)) ?_
      refine yp_put (s := 86) (c := 83) hM (by omega) (by omega) (fun T1 L1 hM1 => ?_)
      rw [cm_set_s, cm_set_set, cm_tt, List.append_assoc, ← List.replicate_succ'] at hM1
      exact nm_r (nI_1 i) (ih (i + 1) T1 L1 (by omega) (by omega) hM1)
set_option maxHeartbeats 200000 in
theorem yl_v57 {post : SY → Prop} {v : Nat} (hev : ev_Y val e2 vl ee) (hv : v < 16) (hv8 : 8 ≤ v) (h : ∀ T' L', cm_M 64 89 T' L' (cm_set m 86 ((tm_vl val e2 v).take 64)) → post (yn, yq, yg, ya, T', L', K, bo, bs, be, fa, fr, fe, hr, ft, hyA, vl, ee, wb)) :
    ∀ f i T L, val v < f + i → i ≤ val v → cm_M 64 89 T L (cm_set m 86 ((tm_el (e2 v) i).take 64)) → wY_valText_57 post (nI v) f (nI i) yn yq yg ya T L K bo bs be fa fr fe hr ft hyA vl ee wb := by
  obtain ⟨hvl, h7, h8⟩ := hev v hv
  obtain ⟨h4, he⟩ := h8 hv8
  intro f
  induction f with
  | zero => intro i T L a b; omega
  | succ f ih =>
    intro i T L a b hM
    rw [wY_valText_57]
    dsimp only
    rw [nI_clamp (n := v) (by omega), hvl]
    refine ⟨vp_in_nI hv (by omega), pk_le (val v) i (fun hge => ?_) (fun hlt => ?_)⟩
    · have e : i = val v := by omega
      subst e
      unfold wY_valText_137
      refine yp_put (s := 86) (c := 78) hM (by omega) (by omega) (fun T1 L1 hM1 => ?_)
      rw [cm_set_s, cm_set_set, cm_tt] at hM1
      dsimp only
      apply h
      unfold tm_vl
      rw [if_neg (by omega)]
      exact hM1
    · refine br_f (nI_ge (b := 4) (by omega) (by decide)) ?_
      refine yp_put (s := 86) (c := 67) hM (by omega) (by omega) (fun T1 L1 hM1 => ?_)
      rw [cm_set_s, cm_set_set, cm_tt] at hM1
      obtain ⟨e3, e4⟩ := he i hlt
      dsimp only
      rw [show nI v - 8 = nI (v - 8) from pk_sub (b := 8) hv8, show nI (v - 8) * 4 = nI ((v - 8) * 4) from pk_mul _ 4, nI_add, nI_clamp (n := (v - 8) * 4 + i) (by omega), e4]
      refine ⟨vp_in_nI (by omega) (by omega), nm_e ⟨e2 v i + 1, yl_v97 (m := m) (w := tm_el (e2 v) i ++ [67]) e3 (fun T2 L2 hM2 => ?_) _ 0 T1 L1 (by omega) (Nat.zero_le _) ?_⟩⟩
      · rw [List.append_assoc] at hM2
        rw [nI_1]
        exact ih (i + 1) T2 L2 (by omega) (by omega) hM2
      · rw [List.replicate_zero, List.append_nil]
        exact hM1
set_option maxHeartbeats 200000 in
theorem yp_vt {post : SY → Prop} {v : Nat} (hM : cm_M 64 89 T L m) (hev : ev_Y val e2 vl ee) (hv : v < 16) (h : ∀ T' L', cm_M 64 89 T' L' (cm_set m 86 (tm_vl val e2 v)) → post (yn, yq, yg, ya, T', L', K, bo, bs, be, fa, fr, fe, hr, ft, hyA, vl, ee, wb)) : wpY_valText post (yn, yq, yg, ya, T, L, K, bo, bs, be, fa, fr, fe, hr, ft, hyA, vl, ee, wb) (nI v) := by
  unfold wpY_valText
  dsimp only
  have hM1 := cm_nil hM (s := 86) (by omega)
  have hlen := tm_vl_len hev hv
  have h' : ∀ T' L', cm_M 64 89 T' L' (cm_set m 86 ((tm_vl val e2 v).take 64)) → post (yn, yq, yg, ya, T', L', K, bo, bs, be, fa, fr, fe, hr, ft, hyA, vl, ee, wb) := by
    rw [cm_tl (by omega)]
    exact h
  refine nm_e (pk_le 8 v (fun h8 => ?_) (fun h8 => ?_))
  · exact ⟨val v + 1, yl_v57 hev hv h8 h' _ 0 T _ (by omega) (Nat.zero_le _) hM1⟩
  · exact ⟨val v + 1, yl_v16 hev h8 h' _ 0 T _ (by omega) (Nat.zero_le _) hM1⟩
set_option maxHeartbeats 400000 in
theorem yl_es {post : Int32 → SY → Prop} {d sv : Nat} {w : List Nat} (hS : tm_SG n A Z) (hg : sg_Y n A Z fa fr fe) (hRU : tm_RU (tm_sg n A Z) R) (hH : yr_H R hr) (hev : ev_Y val e2 vl ee) (hRm : ∀ i, i < 32 → m (1 + i) = R i) (hd : d < 84) (hd2 : 82 ≤ d) (hP : tm_P (tm_sg n A Z) [sv] w) (hF : tm_FC R w)
    (h1 : ∀ w', tm_N (tm_sg n A Z) R (tm_gk val e2 16 w) = some w' → ∀ T' L' bo' bs' be' m', cm_M 64 89 T' L' m' → m' d = w' → (∀ u, u ≠ d → u < 84 → u ≠ 81 → m' u = m u) → post 1 (nI n, yq, yg, ya, T', L', K, bo', bs', be', fa, fr, fe, hr, ft, hyA, vl, ee, wb))
    (h0 : tm_N (tm_sg n A Z) R (tm_gk val e2 16 w) = none → ∀ T' L' bo' bs' be' m', cm_M 64 89 T' L' m' → (∀ u, u ≠ d → u < 84 → u ≠ 81 → m' u = m u) → post 0 (nI n, yq, yg, ya, T', L', K, bo', bs', be', fa, fr, fe, hr, ft, hyA, vl, ee, wb)) :
    ∀ f v T L bo bs be m', 16 < f + v → v ≤ 16 → cm_M 64 89 T L m' → m' d = tm_gk val e2 v w → (tm_gk val e2 v w).length ≤ 48 → (∀ u, u ≠ d → u < 84 → u ≠ 81 → m' u = m u) → wY_evalSide_8 post (nI d) f (nI v) (nI n) yq yg ya T L K bo bs be fa fr fe hr ft hyA vl ee wb := by
  intro f
  induction f with
  | zero => intro v T L bo bs be m' a b; omega
  | succ f ih =>
    intro v T L bo bs be m' ha hb hM hmd hl hfr
    rw [wY_evalSide_8]
    dsimp only
    refine pk_le 16 v (fun hge => ?_) (fun hlt => ?_)
    · have e : v = 16 := by omega
      subst e
      refine yp_norm (s := d) (S := [sv]) hS hg hRU hH hM (fun i hi => by rw [hfr _ (by omega) (by omega) (by omega)]; exact hRm i hi) hd hd2 (by rw [hmd]; exact hl) (by rw [hmd]; exact tm_gk_P _ _ hP) ?_ ?_ ?_
      · rw [hmd]
        intro c hc hf
        rcases tm_gk_mem w hc with h | h
        · exact hF c h hf
        · omega
      · rw [hmd]
        intro w' hw T1 L1 bo1 bs1 be1 m1 hM1 e1 f1
        exact ⟨by decide, h1 w' hw T1 L1 bo1 bs1 be1 m1 hM1 e1 (fun u a b c => by rw [f1 u a c, hfr u a b c])⟩
      · rw [hmd]
        intro hw T1 L1 bo1 bs1 be1 m1 hM1 f1
        exact ⟨by decide, h0 hw T1 L1 bo1 bs1 be1 m1 hM1 (fun u a b c => by rw [f1 u a c, hfr u a b c])⟩
    · refine yp_vt hM hev hlt (fun T1 L1 hM1 => ?_)
      have hM2 := cm_nil hM1 (s := 88) (by omega)
      refine nm_e ?_
      refine yp_vch hlt ?_
      dsimp only
      refine yp_put (s := 88) hM2 (by omega) (tm_vc_lt hlt) (fun T3 L3 hM3 => ?_)
      rw [cm_set_s, cm_set_set, List.nil_append, cm_tl (K := 64) (by rw [List.length_singleton]; omega)] at hM3
      generalize hm3 : cm_set (cm_set m' 86 (tm_vl val e2 v)) 88 [tm_vc v] = m3 at hM3
      have f3 : ∀ s, s < 86 → m3 s = m' s := fun s a => by rw [← hm3, cm_set_n (by omega), cm_set_n (by omega)]
      have k86 : m3 86 = tm_vl val e2 v := by rw [← hm3, cm_set_n (by omega), cm_set_s]
      have k88 : m3 88 = [tm_vc v] := by rw [← hm3, cm_set_s]
      have k3d : m3 d = tm_gk val e2 v w := by rw [f3 d (by omega), hmd]
      dsimp only
      refine yp_repl (t := 84) (f := 88) (p := 86) (pat := false) (S := [sv]) hS hg hM3 (by omega) (by omega) (by omega) (by omega) (by omega) (by omega) (by omega) (by rw [k3d]; exact tm_gk_P _ _ hP) (by rw [k88]; exact yi_Pv hlt) (Or.inr ⟨rfl, by decide⟩) (by rw [k3d]; exact hl) (fun T4 L4 bo4 bs4 be4 hM4 => ?_)
      have hone := tm_R_one (g := tm_sg n A Z) (w := tm_gk val e2 v w) (to := tm_vl val e2 v) (v := tm_vc v) (tm_V_ar (tm_sg_GS hS).1 (tm_vn_vc hlt)) _ 0 (Nat.le_refl _)
      rw [List.drop_zero, tm_gk_s val e2 hlt] at hone
      rw [k88, k86, k3d, hone] at hM4
      generalize hm4 : cm_set m3 84 ((tm_gk val e2 (v + 1) w).take 64) = m4 at hM4
      have f4 : ∀ s, s < 84 → m4 s = m' s := fun s a => by rw [← hm4, cm_set_n (by omega), f3 s (by omega)]
      have d84 : m4 84 = (tm_gk val e2 (v + 1) w).take 64 := by rw [← hm4, cm_set_s]
      have n84 := cm_len hM4 (s := 84) (by omega)
      rw [d84, List.length_take] at n84
      dsimp only
      rw [n84]
      refine pk_le (min 64 (tm_gk val e2 (v + 1) w).length) 48 (fun z => ?_) (fun z => ?_)
      · rw [cm_tl (by omega)] at d84
        refine yp_copy (s := 84) (d := d) hM4 (by omega) (by omega) (by omega) (fun T5 L5 hM5 => ?_)
        rw [d84] at hM5
        dsimp only
        refine nm_r (nI_1 v) (ih (v + 1) T5 L5 bo4 bs4 be4 _ (by omega) (by omega) hM5 cm_set_s (by omega) (fun u a b c => ?_))
        rw [cm_set_n a, f4 u b, hfr u a b c]
      · refine h0 ?_ T4 L4 bo4 bs4 be4 m4 hM4 (fun u a b c => by rw [f4 u b, hfr u a b c])
        have := tm_gk_16 val e2 w (16 - (v + 1)) (v + 1) (by omega)
        exact if_neg (by omega)
set_option maxHeartbeats 400000 in
theorem yp_es {post : Int32 → SY → Prop} {s d sv : Nat} (hS : tm_SG n A Z) (hg : sg_Y n A Z fa fr fe) (hRU : tm_RU (tm_sg n A Z) R) (hH : yr_H R hr) (hM : cm_M 64 89 T L m) (hev : ev_Y val e2 vl ee) (hRm : ∀ i, i < 32 → m (1 + i) = R i) (hs : s < 81) (hd : d < 84) (hd2 : 82 ≤ d) (hP : tm_P (tm_sg n A Z) [sv] (m s)) (hF : tm_FC R (m s)) (hl : (m s).length ≤ 48)
    (h1 : ∀ w', tm_N (tm_sg n A Z) R (tm_gk val e2 16 (m s)) = some w' → ∀ T' L' bo' bs' be' m', cm_M 64 89 T' L' m' → m' d = w' → (∀ u, u ≠ d → u < 84 → u ≠ 81 → m' u = m u) → post 1 (nI n, yq, yg, ya, T', L', K, bo', bs', be', fa, fr, fe, hr, ft, hyA, vl, ee, wb))
    (h0 : tm_N (tm_sg n A Z) R (tm_gk val e2 16 (m s)) = none → ∀ T' L' bo' bs' be' m', cm_M 64 89 T' L' m' → (∀ u, u ≠ d → u < 84 → u ≠ 81 → m' u = m u) → post 0 (nI n, yq, yg, ya, T', L', K, bo', bs', be', fa, fr, fe, hr, ft, hyA, vl, ee, wb)) : wpY_evalSide post (nI n, yq, yg, ya, T, L, K, bo, bs, be, fa, fr, fe, hr, ft, hyA, vl, ee, wb) (nI s) (nI d) := by
  unfold wpY_evalSide
  dsimp only
  refine yp_copy (s := s) (d := d) hM (by omega) (by omega) (by omega) (fun T1 L1 hM1 => ?_)
  dsimp only
  refine ⟨17, yl_es (m := m) hS hg hRU hH hev hRm hd hd2 hP hF h1 h0 17 0 T1 L1 bo bs be _ (by omega) (by omega) hM1 ?_ ?_ (fun u a b c => cm_set_n a)⟩
  · rw [cm_set_s, tm_gk_0]
  · rw [tm_gk_0]
    exact hl
set_option maxHeartbeats 400000 in
theorem yp_eval {post : Int32 → SY → Prop} {k sv : Nat} (hS : tm_SG n A Z) (hg : sg_Y n A Z fa fr fe) (hRU : tm_RU (tm_sg n A Z) R) (hH : yr_H R hr) (hM : cm_M 64 89 T L m) (hev : ev_Y val e2 vl ee) (hRm : ∀ i, i < 32 → m (1 + i) = R i) (hk : k < q) (hq : q ≤ 8) (p1 : tm_P (tm_sg n A Z) [sv] (m (33 + 2 * k))) (p2 : tm_P (tm_sg n A Z) [sv] (m (33 + 2 * k + 1))) (c1 : tm_FC R (m (33 + 2 * k))) (c2 : tm_FC R (m (33 + 2 * k + 1))) (l1 : (m (33 + 2 * k)).length ≤ 48) (l2 : (m (33 + 2 * k + 1)).length ≤ 48)
    (hU : tm_N (tm_sg n A Z) R (tm_gk val e2 16 (m (33 + 2 * k))) = none ∨ tm_N (tm_sg n A Z) R (tm_gk val e2 16 (m (33 + 2 * k + 1))) = none → ∀ T' L' bo' bs' be' m', cm_M 64 89 T' L' m' → (∀ s, s < 81 → m' s = m s) → post 3 (nI n, nI q, yg, ya, T', L', K, bo', bs', be', fa, fr, fe, hr, ft, hyA, vl, ee, wb))
    (hO : ∀ u v, tm_N (tm_sg n A Z) R (tm_gk val e2 16 (m (33 + 2 * k))) = some u → tm_N (tm_sg n A Z) R (tm_gk val e2 16 (m (33 + 2 * k + 1))) = some v → ∀ T' L' bo' bs' be' m', cm_M 64 89 T' L' m' → (∀ s, s < 81 → m' s = m s) → (u = v → post 1 (nI n, nI q, yg, ya, T', L', K, bo', bs', be', fa, fr, fe, hr, ft, hyA, vl, ee, wb)) ∧ (u ≠ v → post 2 (nI n, nI q, yg, ya, T', L', K, bo', bs', be', fa, fr, fe, hr, ft, hyA, vl, ee, wb))) : wpY_evaluate post (nI n, nI q, yg, ya, T, L, K, bo, bs, be, fa, fr, fe, hr, ft, hyA, vl, ee, wb) (nI k) := by
  unfold wpY_evaluate
  dsimp only
  refine br_f (nI_pos (by omega)) (br_t (nI_lt hk (by omega)) ?_)
  rw [show (2 : Int32) * nI k = nI (2 * k) from pk_mul 2 k, show (33 : Int32) + nI (2 * k) = nI (33 + 2 * k) from nI_add 33 _, nI_1 (33 + 2 * k)]
  refine yp_es (d := 82) hS hg hRU hH hM hev hRm (by omega) (by omega) (by omega) p1 c1 l1 (fun u hu T1 L1 bo1 bs1 be1 m1 hM1 e1 f1 => ?_) (fun hu T1 L1 bo1 bs1 be1 m1 hM1 f1 => ?_)
  · refine br_f (by decide) ?_
    have a1 := f1 (33 + 2 * k + 1) (by omega) (by omega) (by omega)
    dsimp only
    refine yp_es (d := 83) (sv := sv) hS hg hRU hH hM1 hev (fun i hi => by rw [f1 _ (by omega) (by omega) (by omega)]; exact hRm i hi) (by omega) (by omega) (by omega) (by rw [a1]; exact p2) (by rw [a1]; exact c2) (by rw [a1]; exact l2) ?_ ?_
    · rw [a1]
      intro v hv T2 L2 bo2 bs2 be2 m2 hM2 e2 f2
      refine br_f (by decide) ?_
      have b1 : m2 82 = u := by rw [f2 82 (by omega) (by omega) (by omega), e1]
      obtain ⟨o1, o2⟩ := hO u v hu hv T2 L2 bo2 bs2 be2 m2 hM2 (fun s a => by rw [f2 s (by omega) (by omega) (by omega), f1 s (by omega) (by omega) (by omega)])
      dsimp only
      refine yp_eqs (a := 82) (b := 83) hM2 (by omega) (by omega) ?_ ?_
      · rw [b1, e2]
        exact fun e => br_f (by decide) (o1 e)
      · rw [b1, e2]
        exact fun e => br_t rfl (o2 e)
    · rw [a1]
      intro hv T2 L2 bo2 bs2 be2 m2 hM2 f2
      exact br_t rfl (hU (Or.inr hv) T2 L2 bo2 bs2 be2 m2 hM2 (fun s a => by rw [f2 s (by omega) (by omega) (by omega), f1 s (by omega) (by omega) (by omega)]))
  · exact br_t rfl (hU (Or.inl hu) T1 L1 bo1 bs1 be1 m1 hM1 (fun s a => f1 s (by omega) (by omega) (by omega)))
end YK
end
section
/-! 31: the reference: feed -/
section YL
variable {yn yq yg ya : Int32} {T L K bo bs be fa fr fe hr ft hyA vl ee wb : Nat → Int32} {m : Nat → List Nat} {w0 w1 w2 w3 : Int32}
def yw_b (w0 w1 w2 w3 : Int32) (wb : Nat → Int32) : Prop := wb 0 = w0 ∧ wb 1 = w1 ∧ wb 2 = w2 ∧ wb 3 = w3
theorem yw_w (h : yw_b w0 w1 w2 w3 wb) {j : Nat} (hj : j < 16) : wb (j / 4) = fd_w w0 w1 w2 w3 j := by
  obtain ⟨h0, h1, h2, h3⟩ := h
  unfold fd_w
  by_cases a : j < 4
  · rw [if_pos a, show j / 4 = 0 by omega, h0]
  · rw [if_neg a]
    by_cases b : j < 8
    · rw [if_pos b, show j / 4 = 1 by omega, h1]
    · rw [if_neg b]
      by_cases c : j < 12
      · rw [if_pos c, show j / 4 = 2 by omega, h2]
      · rw [if_neg c, show j / 4 = 3 by omega, h3]
theorem yw_sh {j : Nat} (hj : j < 2 ^ 20) : nI j >>> ((2 : Int32) &&& 31) = nI (j / 4) := pk_shrN (by omega) _ 2 (by decide)
theorem yw_byte (h : yw_b w0 w1 w2 w3 wb) {j : Nat} (hj : j < 16) : ((wb (nI (j / 4)).toNatClampNeg) >>> ((8 * (nI j &&& 3)) &&& 31)) &&& 255 = nI (fd_b w0 w1 w2 w3 j) := by
  rw [nI_clamp (by omega), yw_w h hj, show nI j &&& 3 = nI (j % 2 ^ 2) from pk_andN (by omega) 2 (by decide), show (8 : Int32) * nI (j % 2 ^ 2) = nI (8 * (j % 2 ^ 2)) from pk_mul 8 _]
  exact fd_b_e w0 w1 w2 w3 j
set_option maxHeartbeats 200000 in
theorem yl_f113 {post : Int32 → SY → Prop} {l : List Nat} (hwb : yw_b w0 w1 w2 w3 wb) (hl : l = fd_l (fd_b w0 w1 w2 w3) 16 0) (h48 : (m 0).length + l.length ≤ 48) (h : ∀ T' L', cm_M 64 89 T' L' (cm_set m 0 (m 0 ++ l)) → post (nI ((m 0).length + l.length)) (yn, yq, yg, ya, T', L', K, bo, bs, be, fa, fr, fe, hr, ft, hyA, vl, ee, wb)) :
    ∀ f i T L, l.length < f + i → i ≤ l.length → cm_M 64 89 T L (cm_set m 0 (m 0 ++ l.take i)) → wY_feed_113 post (nI l.length) f (nI i) yn yq yg ya T L K bo bs be fa fr fe hr ft hyA vl ee wb := by
  have hl16 : l.length ≤ 16 := by
    rw [hl]
    exact fd_l_len 16 0
  intro f
  induction f with
  | zero => intro i T L a b; omega
  | succ f ih =>
    intro i T L a b hM
    rw [wY_feed_113]
    dsimp only
    refine pk_le l.length i (fun hge => ?_) (fun hlt => ?_)
    · rw [cm_tl hge] at hM
      have hl0 := cm_len hM (s := 0) (by omega)
      rw [cm_set_s, List.length_append] at hl0
      rw [hl0]
      exact h T L hM
    · have hb : tm_at l i = fd_b w0 w1 w2 w3 i := by
        rw [hl] at hlt ⊢
        rw [fd_l_at 16 0 i hlt, Nat.zero_add]
      rw [yw_sh (by omega), yw_byte hwb (by omega)]
      refine ⟨vp_in_nI (by omega) (by omega), nm_e ?_⟩
      refine yp_put (s := 0) hM (by omega) (fd_b_lt _ _ _ _ _) (fun T1 L1 hM1 => ?_)
      rw [cm_set_s, cm_set_set, List.append_assoc, ← hb, cm_snoc hlt, cm_tl (K := 64) (by rw [List.length_append, List.length_take]; omega)] at hM1
      exact nm_r (nI_1 i) (ih (i + 1) T1 L1 (by omega) (by omega) hM1)
set_option maxHeartbeats 200000 in
theorem yl_f38 {post : Int32 → SY → Prop} (hwb : yw_b w0 w1 w2 w3 wb) (h93 : wY_feed_93 post (nI (fd_l (fd_b w0 w1 w2 w3) 16 0).length) yn yq yg ya T L K bo bs be fa fr fe hr ft hyA vl ee wb) :
    ∀ f j, 17 < f + j → j ≤ 16 → (fd_l (fd_b w0 w1 w2 w3) 16 0).length = j + (fd_l (fd_b w0 w1 w2 w3) (16 - j) j).length → wY_feed_38 post yn yq yg ya T L K bo bs be fa fr fe hr ft hyA vl ee wb f (nI j) 0 (nI j) := by
  intro f
  induction f with
  | zero => intro j a b; omega
  | succ f ih =>
    intro j a b hj
    rw [wY_feed_38]
    dsimp only
    refine pk_le 16 j (fun hge => ?_) (fun hlt => ?_)
    · have e : j = 16 := by omega
      subst e
      rw [hj] at h93
      exact h93
    · refine br_t rfl ?_
      rw [yw_sh (by omega), yw_byte hwb hlt]
      have hbl := fd_b_lt w0 w1 w2 w3 j
      refine ⟨vp_in_nI (by omega) (by omega), nm_e (pk_eq (fd_b w0 w1 w2 w3 j) 0 (fun e => ?_) (fun e => ?_))⟩
      · rw [fd_l_0 e, List.length_nil, Nat.add_zero] at hj
        rw [hj] at h93
        refine nm_r (nI_1 j) ?_
        obtain ⟨f', rfl⟩ : ∃ f', f = f' + 1 := ⟨f - 1, by omega⟩
        rw [wY_feed_38]
        dsimp only
        exact br_c (fun _ => h93) (fun _ => br_f (by decide) h93)
      · refine nm_r (nI_1 j) (nm_r (nI_1 j) (ih (j + 1) (by omega) (by omega) ?_))
        rw [show 16 - j = (16 - (j + 1)) + 1 by omega, fd_l_s e, List.length_cons] at hj
        omega
set_option maxHeartbeats 200000 in
theorem yp_feed {post : Int32 → SY → Prop} (hM : cm_M 64 89 T L m) (h48 : (m 0).length ≤ 48)
    (h1 : (m 0).length + (fd_l (fd_b w0 w1 w2 w3) 16 0).length ≤ 48 → ∀ T' L' wb', cm_M 64 89 T' L' (cm_set m 0 (m 0 ++ fd_l (fd_b w0 w1 w2 w3) 16 0)) → post (nI ((m 0).length + (fd_l (fd_b w0 w1 w2 w3) 16 0).length)) (yn, yq, yg, ya, T', L', K, bo, bs, be, fa, fr, fe, hr, ft, hyA, vl, ee, wb'))
    (h0 : 48 < (m 0).length + (fd_l (fd_b w0 w1 w2 w3) 16 0).length → ∀ wb', post (-4) (yn, yq, yg, ya, T, L, K, bo, bs, be, fa, fr, fe, hr, ft, hyA, vl, ee, wb')) : wpY_feed post (yn, yq, yg, ya, T, L, K, bo, bs, be, fa, fr, fe, hr, ft, hyA, vl, ee, wb) w0 w1 w2 w3 := by
  unfold wpY_feed
  dsimp only
  have hl16 := fd_l_len (b := fd_b w0 w1 w2 w3) 16 0
  have hl0 := cm_len hM (s := 0) (by omega)
  have hwb : yw_b w0 w1 w2 w3 (upd (upd (upd (upd wb 0 w0) 1 w1) 2 w2) 3 w3) := ⟨rfl, rfl, rfl, rfl⟩
  refine nm_e (nm_e (nm_e (nm_e ⟨18, yl_f38 hwb ?_ 18 0 (by omega) (by omega) (by rw [Nat.zero_add, Nat.sub_zero])⟩)))
  unfold wY_feed_93
  rw [hl0, nI_add]
  refine pk_le ((m 0).length + (fd_l (fd_b w0 w1 w2 w3) 16 0).length) 48 (fun z => ?_) (fun z => h0 z _)
  refine ⟨_, yl_f113 (m := m) hwb rfl z (fun T' L' hM' => h1 z T' L' _ hM') ((fd_l (fd_b w0 w1 w2 w3) 16 0).length + 1) 0 T L (by omega) (Nat.zero_le _) ?_⟩
  rw [List.take_zero, List.append_nil, cm_set_self]
  exact hM
end YL
end
section
/-! 32: the relation -/
def re_A (q ng : Nat) (act : Int32) (pr : Nat → Bool) : Prop := (act = -1 ∧ ng = 0) ∨ (∃ k, k < q ∧ act = nI k ∧ 1 ≤ ng ∧ pr k = false)
def re_P (q : Nat) (act : Int32) (pr : Nat → Bool) (pv ft : Nat → Int32) : Prop := ∀ k, k < 8 → (pv k = if pr k = true then 1 else 0) ∧ (q ≤ k → pr k = false) ∧ (ft k = if pr k = true then 3 else if k < q then (if act = nI k then 2 else 1) else 0)
def re_H (ng : Nat) (hy : Nat → Bool) (hyA : Nat → Int32) : Prop := ∀ j, j < ng → hyA j = if hy j = true then 1 else 0
def re_L (ng : Nat) (hy : Nat → Bool) (mX mY : Nat → List Nat) : Prop := mY 0 = mX 0 ∧ (∀ i, i < 16 → mY (33 + i) = mX (1 + i)) ∧ (∀ i, i < 32 → mY (1 + i) = mX (17 + i)) ∧ (∀ j, j < ng → mY (49 + 4 * j) = mX (49 + 4 * j) ∧ mY (49 + 4 * j + 1) = mX (49 + 4 * j + 1) ∧ (hy j = true → mY (49 + 4 * j + 2) = mX (49 + 4 * j + 2) ∧ mY (49 + 4 * j + 3) = mX (49 + 4 * j + 3)))
def re_I (n q ng : Nat) (A : Nat → List Nat) (Z : Nat → Nat) (hy pr : Nat → Bool) (val : Nat → Nat) (e2 : Nat → Nat → Nat) (act : Int32) (mX mY : Nat → List Nat) (T L ay gs so pv vl el T' L' fa fr fe hr ft hyA vl' ee : Nat → Int32) : Prop :=
  cm_M 49 86 T L mX ∧ cm_M 64 89 T' L' mY ∧ iv_W n A Z q ng hy mX ∧ re_L ng hy mX mY ∧ re_A q ng act pr ∧ sg_X (tm_sg n A Z) ay gs so ∧ sg_Y n A Z fa fr fe ∧ re_P q act pr pv ft ∧ yr_H (iv_R mX) hr ∧ re_H ng hy hyA ∧ ev_X val e2 vl el ∧ ev_Y val e2 vl' ee
def i_Rel (_ : Nat) (u : SX) (v : SY) : Prop := ∃ (n q ng : Nat) (A : Nat → List Nat) (Z : Nat → Nat) (hy pr : Nat → Bool) (val : Nat → Nat) (e2 : Nat → Nat → Nat) (act : Int32) (mX mY : Nat → List Nat) (T L ay gs so E B pv vl el T' L' K bo bs be fa fr fe hr ft hyA vl' ee wb : Nat → Int32), u = (nI n, nI q, act, nI ng, T, L, ay, gs, so, E, B, pv, vl, el) ∧ v = (nI n, nI q, nI ng, act, T', L', K, bo, bs, be, fa, fr, fe, hr, ft, hyA, vl', ee, wb) ∧ re_I n q ng A Z hy pr val e2 act mX mY T L ay gs so pv vl el T' L' fa fr fe hr ft hyA vl' ee
theorem i_up {k : Nat} {u : SX} {v : SY} (h : i_Rel k u v) : i_Rel (k + 5) u v := h
section RE
variable {k n q ng : Nat} {A : Nat → List Nat} {Z : Nat → Nat} {hy pr : Nat → Bool} {val : Nat → Nat} {e2 : Nat → Nat → Nat} {act : Int32} {mX mY : Nat → List Nat} {T L ay gs so E B pv vl el T' L' K bo bs be fa fr fe hr ft hyA vl' ee wb : Nat → Int32}
theorem re_mk (h : re_I n q ng A Z hy pr val e2 act mX mY T L ay gs so pv vl el T' L' fa fr fe hr ft hyA vl' ee) : i_Rel k (nI n, nI q, act, nI ng, T, L, ay, gs, so, E, B, pv, vl, el) (nI n, nI q, nI ng, act, T', L', K, bo, bs, be, fa, fr, fe, hr, ft, hyA, vl', ee, wb) :=
  ⟨n, q, ng, A, Z, hy, pr, val, e2, act, mX, mY, T, L, ay, gs, so, E, B, pv, vl, el, T', L', K, bo, bs, be, fa, fr, fe, hr, ft, hyA, vl', ee, wb, rfl, rfl, h⟩
theorem re_Rext {m m' : Nat → List Nat} (h : ∀ s, 17 ≤ s → s < 49 → m' s = m s) : ∀ i, i < 32 → iv_R m' i = iv_R m i := fun i hi => h _ (by omega) (by omega)
theorem re_Hext {R R' : Nat → List Nat} (h : ∀ i, i < 32 → R' i = R i) (hH : yr_H R hr) : yr_H R' hr := by
  intro f k hf hk
  rw [h _ (by omega)]
  exact hH f k hf hk
/-- scratch alone has changed, or the buffer -/
theorem re_keep0 {T2 L2 T2' L2' : Nat → Int32} {mX2 mY2 : Nat → List Nat} (h : re_I n q ng A Z hy pr val e2 act mX mY T L ay gs so pv vl el T' L' fa fr fe hr ft hyA vl' ee) (hX : cm_M 49 86 T2 L2 mX2) (fX : ∀ s, 1 ≤ s → s < 81 → mX2 s = mX s) (hY : cm_M 64 89 T2' L2' mY2) (fY : ∀ s, 1 ≤ s → s < 81 → mY2 s = mY s) (h0 : mY2 0 = mX2 0) (hl : (mX2 0).length ≤ 48) :
    re_I n q ng A Z hy pr val e2 act mX2 mY2 T2 L2 ay gs so pv vl el T2' L2' fa fr fe hr ft hyA vl' ee := by
  obtain ⟨_, _, hW, hL, hA, hsX, hsY, hP, hH, hHy, hvX, hvY⟩ := h
  have hg8 : ng ≤ 8 := hW.2.2.1
  refine ⟨hX, hY, iv_W_ext fX hl hW, ⟨h0, fun i hi => ?_, fun i hi => ?_, fun j hj => ?_⟩, hA, hsX, hsY, hP, re_Hext (re_Rext (fun s a b => fX s (by omega) (by omega))) hH, hHy, hvX, hvY⟩
  · rw [fY _ (by omega) (by omega), fX _ (by omega) (by omega)]
    exact hL.2.1 i hi
  · rw [fY _ (by omega) (by omega), fX _ (by omega) (by omega)]
    exact hL.2.2.1 i hi
  · rw [fY _ (by omega) (by omega), fX _ (by omega) (by omega), fY _ (by omega) (by omega), fX _ (by omega) (by omega), fY _ (by omega) (by omega), fX _ (by omega) (by omega), fY _ (by omega) (by omega), fX _ (by omega) (by omega)]
    exact hL.2.2.2 j hj
theorem re_keep {T2 L2 T2' L2' : Nat → Int32} {mX2 mY2 : Nat → List Nat} (h : re_I n q ng A Z hy pr val e2 act mX mY T L ay gs so pv vl el T' L' fa fr fe hr ft hyA vl' ee) (hX : cm_M 49 86 T2 L2 mX2) (fX : ∀ s, s < 81 → mX2 s = mX s) (hY : cm_M 64 89 T2' L2' mY2) (fY : ∀ s, s < 81 → mY2 s = mY s) :
    re_I n q ng A Z hy pr val e2 act mX2 mY2 T2 L2 ay gs so pv vl el T2' L2' fa fr fe hr ft hyA vl' ee := by
  refine re_keep0 h hX (fun s a b => fX s b) hY (fun s a b => fY s b) ?_ ?_
  · rw [fX 0 (by omega), fY 0 (by omega)]
    exact h.2.2.2.1.1
  · rw [fX 0 (by omega)]
    exact h.2.2.1.2.2.2.1
/-- new sides of the top goal -/
theorem re_goal {T2 L2 T2' L2' : Nat → Int32} {mX2 mY2 : Nat → List Nat} (h : re_I n q ng A Z hy pr val e2 act mX mY T L ay gs so pv vl el T' L' fa fr fe hr ft hyA vl' ee) (hg0 : 1 ≤ ng) (hX : cm_M 49 86 T2 L2 mX2) (fX : ∀ s, 1 ≤ s → s < 81 → s ≠ 49 + 4 * (ng - 1) → s ≠ 49 + 4 * (ng - 1) + 1 → mX2 s = mX s) (hY : cm_M 64 89 T2' L2' mY2) (fY : ∀ s, 1 ≤ s → s < 81 → s ≠ 49 + 4 * (ng - 1) → s ≠ 49 + 4 * (ng - 1) + 1 → mY2 s = mY s)
    (h0 : mY2 0 = mX2 0) (hl : (mX2 0).length ≤ 48) (e1 : mY2 (49 + 4 * (ng - 1)) = mX2 (49 + 4 * (ng - 1))) (e2' : mY2 (49 + 4 * (ng - 1) + 1) = mX2 (49 + 4 * (ng - 1) + 1)) (hE : iv_E (tm_sg n A Z) (iv_R mX) (mX2 (49 + 4 * (ng - 1))) (mX2 (49 + 4 * (ng - 1) + 1))) :
    re_I n q ng A Z hy pr val e2 act mX2 mY2 T2 L2 ay gs so pv vl el T2' L2' fa fr fe hr ft hyA vl' ee := by
  obtain ⟨_, _, hW, hL, hA, hsX, hsY, hP, hH, hHy, hvX, hvY⟩ := h
  have hg8 : ng ≤ 8 := hW.2.2.1
  have hWg := hW.2.2.2.2.2.2
  refine ⟨hX, hY, iv_W_goals (fun s a b => fX s a (by omega) (by omega) (by omega)) hl hg8 hW (fun j hj => ?_), ⟨h0, fun i hi => ?_, fun i hi => ?_, fun j hj => ?_⟩, hA, hsX, hsY, hP, re_Hext (re_Rext (fun s a b => fX s (by omega) (by omega) (by omega) (by omega))) hH, hHy, hvX, hvY⟩
  · obtain ⟨a1, a2, a3⟩ := hWg j hj
    rw [fX (49 + 4 * j + 2) (by omega) (by omega) (by omega) (by omega), fX (49 + 4 * j + 3) (by omega) (by omega) (by omega) (by omega)]
    refine ⟨?_, a2, a3⟩
    by_cases q9 : j = ng - 1
    · rw [q9]
      exact hE
    · rw [fX (49 + 4 * j) (by omega) (by omega) (by omega) (by omega), fX (49 + 4 * j + 1) (by omega) (by omega) (by omega) (by omega)]
      exact a1
  · rw [fY _ (by omega) (by omega) (by omega) (by omega), fX _ (by omega) (by omega) (by omega) (by omega)]
    exact hL.2.1 i hi
  · rw [fY _ (by omega) (by omega) (by omega) (by omega), fX _ (by omega) (by omega) (by omega) (by omega)]
    exact hL.2.2.1 i hi
  · obtain ⟨a1, a2, a3⟩ := hL.2.2.2 j hj
    rw [fX (49 + 4 * j + 2) (by omega) (by omega) (by omega) (by omega), fX (49 + 4 * j + 3) (by omega) (by omega) (by omega) (by omega), fY (49 + 4 * j + 2) (by omega) (by omega) (by omega) (by omega), fY (49 + 4 * j + 3) (by omega) (by omega) (by omega) (by omega)]
    by_cases q9 : j = ng - 1
    · rw [q9] at a3 ⊢
      exact ⟨e1, e2', a3⟩
    · rw [fX (49 + 4 * j) (by omega) (by omega) (by omega) (by omega), fX (49 + 4 * j + 1) (by omega) (by omega) (by omega) (by omega), fY (49 + 4 * j) (by omega) (by omega) (by omega) (by omega), fY (49 + 4 * j + 1) (by omega) (by omega) (by omega) (by omega)]
      exact ⟨a1, a2, a3⟩
/-- the top goal goes -/
theorem re_pop (h : re_I n q ng A Z hy pr val e2 act mX mY T L ay gs so pv vl el T' L' fa fr fe hr ft hyA vl' ee) (hg1 : 1 < ng) : re_I n q (ng - 1) A Z hy pr val e2 act mX mY T L ay gs so pv vl el T' L' fa fr fe hr ft hyA vl' ee := by
  obtain ⟨hX, hY, ⟨w1, w2, w3, w4, w5, w6, w7⟩, ⟨l1, l2, l3, l4⟩, hA, hsX, hsY, hP, hH, hHy, hvX, hvY⟩ := h
  refine ⟨hX, hY, ⟨w1, w2, by omega, w4, w5, w6, fun j hj => w7 j (by omega)⟩, ⟨l1, l2, l3, fun j hj => l4 j (by omega)⟩, ?_, hsX, hsY, hP, hH, fun j hj => hHy j (by omega), hvX, hvY⟩
  rcases hA with ⟨_, z⟩ | ⟨k, k1, k2, k3, k4⟩
  · omega
  · exact Or.inr ⟨k, k1, k2, by omega, k4⟩
/-- the last goal goes -/
theorem re_done {kk : Nat} (h : re_I n q 1 A Z hy pr val e2 (nI kk) mX mY T L ay gs so pv vl el T' L' fa fr fe hr ft hyA vl' ee) (hk : kk < q) : re_I n q 0 A Z hy (fun j => if j = kk then true else pr j) val e2 (-1) mX mY T L ay gs so (upd pv kk 1) vl el T' L' fa fr fe hr (upd ft kk 3) hyA vl' ee := by
  obtain ⟨hX, hY, ⟨w1, w2, w3, w4, w5, w6, w7⟩, ⟨l1, l2, l3, l4⟩, hA, hsX, hsY, hP, hH, hHy, hvX, hvY⟩ := h
  refine ⟨hX, hY, ⟨w1, w2, by omega, w4, w5, w6, fun j hj => absurd hj (Nat.not_lt_zero _)⟩, ⟨l1, l2, l3, fun j hj => absurd hj (Nat.not_lt_zero _)⟩, Or.inl ⟨rfl, rfl⟩, hsX, hsY, ?_, hH, fun j hj => absurd hj (Nat.not_lt_zero _), hvX, hvY⟩
  intro j hj
  obtain ⟨p1, p2, p3⟩ := hP j hj
  by_cases e : j = kk
  · subst e
    rw [cm_us, cm_us]
    have hpr : (fun i => if i = j then true else pr i) j = true := if_pos rfl
    refine ⟨(if_pos hpr).symm, fun z => by omega, (if_pos hpr).symm⟩
  · rw [cm_un e, cm_un e]
    have hpr : (fun i => if i = kk then true else pr i) j = pr j := if_neg e
    by_cases hpj : pr j = true
    · have h2 : (fun i => if i = kk then true else pr i) j = true := hpr.trans hpj
      rw [if_pos hpj] at p1 p3
      exact ⟨p1.trans (if_pos h2).symm, fun z => hpr.trans (p2 z), p3.trans (if_pos h2).symm⟩
    · have h2 : ¬ (fun i => if i = kk then true else pr i) j = true := fun z => hpj (hpr.symm.trans z)
      rw [if_neg hpj] at p1 p3
      refine ⟨p1.trans (if_neg h2).symm, fun z => hpr.trans (p2 z), p3.trans (Eq.trans ?_ (if_neg h2).symm)⟩
      by_cases hjq : j < q
      · rw [if_pos hjq, if_pos hjq, if_neg (fun z => e ((nI_eq (by omega) (by omega)).mp z).symm), if_neg (fun z => xi_neg (by omega) z.symm)]
      · rw [if_neg hjq, if_neg hjq]
theorem re_act (h : re_I n q ng A Z hy pr val e2 act mX mY T L ay gs so pv vl el T' L' fa fr fe hr ft hyA vl' ee) : (act = -1 ∧ ng = 0) ∨ (∃ k, k < q ∧ k < 8 ∧ act = nI k ∧ 1 ≤ ng ∧ ng ≤ 8 ∧ pr k = false) := by
  have hq := h.2.2.1.2.1
  have hg := h.2.2.1.2.2.1
  rcases h.2.2.2.2.1 with z | ⟨k, k1, k2, k3, k4⟩
  · exact Or.inl z
  · exact Or.inr ⟨k, k1, by omega, k2, k3, hg, k4⟩
end RE
end
section
/-! 33: the small methods (the heads as owed) -/
theorem rx_nn {x : Int32} (h : ¬ x < 0) : ∃ j : Nat, j < 2 ^ 31 ∧ x = nI j := nI_of h
theorem i_vc_goalCount {k : Nat} {u : SX} {v : SY} (I : i_Rel k u v) (hk : k + 5 ≤ 2560) : wpX_goalCount (fun r => wpY_goalCount (fun r' => r' = r ∧ i_Rel (k + 5) u v) v) u := by
  have I2 := I
  obtain ⟨n, q, ng, A, Z, hy, pr, val, e2, act, mX, mY, T, L, ay, gs, so, E, B, pv, vl, el, T', L', K, bo, bs, be, fa, fr, fe, hr, ft, hyA, vl', ee, wb, rfl, rfl, hI⟩ := I
  have hI0 := hI
  obtain ⟨hMX, hMY, hW, hL, hA, hsX, hsY, hP, hH, hHy, hvX, hvY⟩ := hI
  unfold wpX_goalCount wpY_goalCount
  dsimp only
  rcases re_act hI0 with ⟨rfl, rfl⟩ | ⟨kk, k1, k2, rfl, k3, k4, k5⟩
  · exact br_f (by decide) ⟨rfl, I2⟩
  · exact br_t (nI_pos' (by omega)) ⟨rfl, I2⟩
theorem i_vc_status {k : Nat} {u : SX} {v : SY} (I : i_Rel k u v) (hk : k + 5 ≤ 2560) (v1 : Int32) : wpX_status (fun r => wpY_status (fun r' => r' = r ∧ i_Rel (k + 5) u v) v v1) u v1 := by
  have I2 := I
  obtain ⟨n, q, ng, A, Z, hy, pr, val, e2, act, mX, mY, T, L, ay, gs, so, E, B, pv, vl, el, T', L', K, bo, bs, be, fa, fr, fe, hr, ft, hyA, vl', ee, wb, rfl, rfl, hI⟩ := I
  have hI0 := hI
  obtain ⟨hMX, hMY, hW, hL, hA, hsX, hsY, hP, hH, hHy, hvX, hvY⟩ := hI
  unfold wpX_status wpY_status
  dsimp only
  have hq := hW.2.1
  by_cases h0 : v1 < 0
  · exact br_t h0 (br_t h0 ⟨rfl, I2⟩)
  · obtain ⟨j, hj, rfl⟩ := nI_of h0
    refine br_f h0 ?_
    by_cases hjq : j < q
    · have h1 : nI j < nI q := nI_lt hjq (by omega)
      obtain ⟨p1, p2, p3⟩ := hP j (by omega)
      rw [nI_clamp (n := j) (by omega), p1]
      refine br_t h1 ⟨vp_in_nI (by omega) (by omega), ?_⟩
      have hfin : ∀ r, ft j = r → (nI j < 0 → (0 : Int32) = r ∧ i_Rel (k + 5) (nI n, nI q, act, nI ng, T, L, ay, gs, so, E, B, pv, vl, el) (nI n, nI q, nI ng, act, T', L', K, bo, bs, be, fa, fr, fe, hr, ft, hyA, vl', ee, wb)) ∧ (¬ nI j < 0 → (nI j < nI q → vp_in (nI j) 8 ∧ (ft j = r ∧ i_Rel (k + 5) (nI n, nI q, act, nI ng, T, L, ay, gs, so, E, B, pv, vl, el) (nI n, nI q, nI ng, act, T', L', K, bo, bs, be, fa, fr, fe, hr, ft, hyA, vl', ee, wb))) ∧ (¬ nI j < nI q → (0 : Int32) = r ∧ i_Rel (k + 5) (nI n, nI q, act, nI ng, T, L, ay, gs, so, E, B, pv, vl, el) (nI n, nI q, nI ng, act, T', L', K, bo, bs, be, fa, fr, fe, hr, ft, hyA, vl', ee, wb))) :=
        fun r e => br_f h0 (br_t h1 ⟨vp_in_nI (by omega) (by omega), e, I2⟩)
      by_cases hpj : pr j = true
      · rw [if_pos hpj] at p3 ⊢
        exact br_f (by decide) (hfin 3 p3)
      · rw [if_neg hpj] at p3 ⊢
        rw [if_pos hjq] at p3
        refine br_t rfl ?_
        by_cases ha : act = nI j
        · rw [if_pos ha] at p3
          exact br_t ha.symm (hfin 2 p3)
        · rw [if_neg ha] at p3
          exact br_f (fun z => ha z.symm) (hfin 1 p3)
    · have h1 : ¬ nI j < nI q := nI_nlt (by omega) hj
      exact br_f h1 (br_f h0 (br_f h1 ⟨rfl, I2⟩))
theorem i_vc_getVar {k : Nat} {u : SX} {v : SY} (I : i_Rel k u v) (hk : k + 5 ≤ 2560) (v1 : Int32) (v2 : Int32) : wpX_getVar (fun r => wpY_getVar (fun r' => r' = r ∧ i_Rel (k + 5) u v) v v1 v2) u v1 v2 := by
  have I2 := I
  obtain ⟨n, q, ng, A, Z, hy, pr, val, e2, act, mX, mY, T, L, ay, gs, so, E, B, pv, vl, el, T', L', K, bo, bs, be, fa, fr, fe, hr, ft, hyA, vl', ee, wb, rfl, rfl, hI⟩ := I
  have hI0 := hI
  obtain ⟨hMX, hMY, hW, hL, hA, hsX, hsY, hP, hH, hHy, hvX, hvY⟩ := hI
  unfold wpX_getVar wpY_getVar
  dsimp only
  by_cases h0 : v1 < 0
  · exact br_t h0 (br_t h0 ⟨rfl, I2⟩)
  · obtain ⟨j, hj, rfl⟩ := nI_of h0
    refine br_f h0 ?_
    by_cases h16 : j < 16
    · have a16 : nI j < 16 := nI_lt (b := 16) h16 (by decide)
      have a15 : nI j ≤ 15 := nI_le (b := 15) (by omega) (by decide)
      obtain ⟨x1, x2, x3⟩ := hvX j h16
      obtain ⟨y1, y2, y3⟩ := hvY j h16
      have hin : vp_in (nI j) 16 := vp_in_nI h16 (by omega)
      rw [nI_clamp (n := j) (by omega), x1, y1]
      refine br_t a16 ?_
      by_cases h8 : j < 8
      · have a8 : nI j < 8 := nI_lt (b := 8) h8 (by decide)
        have b8 : ¬ (8 : Int32) ≤ nI j := nI_ge (b := 8) h8 (by decide)
        exact br_t a8 ⟨hin, br_f h0 (br_t a15 (br_f b8 ⟨hin, rfl, I2⟩))⟩
      · have a8 : ¬ nI j < 8 := nI_nlt (b := 8) (by omega) hj
        have b8 : (8 : Int32) ≤ nI j := nI_le (a := 8) (by omega) hj
        refine br_f a8 ?_
        by_cases hm : v2 = -1
        · exact br_t hm ⟨hin, br_f h0 (br_t a15 (br_t b8 (br_t hm ⟨hin, rfl, I2⟩)))⟩
        · refine br_f hm ?_
          by_cases hn : v2 < 0
          · exact br_t hn (br_f h0 (br_t a15 (br_t b8 (br_f hm (br_t hn ⟨rfl, I2⟩)))))
          · obtain ⟨i, hi, rfl⟩ := nI_of hn
            obtain ⟨x4, x5⟩ := x3 (by omega)
            obtain ⟨y4, y5⟩ := y3 (by omega)
            refine br_f hn ⟨hin, ?_⟩
            by_cases hlt : i < val j
            · have c1 : nI i < nI (val j) := nI_lt hlt (by omega)
              have c2 : ¬ nI (val j) ≤ nI i := nI_ge hlt (by omega)
              refine br_t c1 ⟨hin, br_f h0 (br_t a15 (br_t b8 (br_f hm (br_f hn ⟨hin, br_f c2 ?_⟩))))⟩
              rw [show nI j - 8 = nI (j - 8) from pk_sub (b := 8) (by omega), show nI (j - 8) * 4 = nI ((j - 8) * 4) from pk_mul _ 4, nI_add, nI_clamp (n := (j - 8) * 4 + i) (by omega), (y5 i hlt).2, show (4 : Int32) * nI i = nI (4 * i) from pk_mul 4 i, (x5 i hlt).2]
              exact ⟨vp_in_nI (by omega) (by omega), rfl, I2⟩
            · have c1 : ¬ nI i < nI (val j) := nI_nlt (by omega) hi
              have c2 : nI (val j) ≤ nI i := nI_le (by omega) hi
              exact br_f c1 (br_f h0 (br_t a15 (br_t b8 (br_f hm (br_f hn ⟨hin, br_t c2 ⟨rfl, I2⟩⟩)))))
    · have a16 : ¬ nI j < 16 := nI_nlt (b := 16) (by omega) hj
      have a15 : ¬ nI j ≤ 15 := nI_ge (a := 15) (by omega) hj
      exact br_f a16 (br_f h0 (br_f a15 ⟨rfl, I2⟩))
theorem i_vc_funcInfo {k : Nat} {u : SX} {v : SY} (I : i_Rel k u v) (hk : k + 5 ≤ 2560) (v1 : Int32) : wpX_funcInfo (fun r => wpY_funcInfo (fun r' => r' = r ∧ i_Rel (k + 5) u v) v v1) u v1 := by
  have I2 := I
  obtain ⟨n, q, ng, A, Z, hy, pr, val, e2, act, mX, mY, T, L, ay, gs, so, E, B, pv, vl, el, T', L', K, bo, bs, be, fa, fr, fe, hr, ft, hyA, vl', ee, wb, rfl, rfl, hI⟩ := I
  have hI0 := hI
  obtain ⟨hMX, hMY, hW, hL, hA, hsX, hsY, hP, hH, hHy, hvX, hvY⟩ := hI
  unfold wpX_funcInfo wpY_funcInfo
  dsimp only
  have hn8 := hW.1.1
  by_cases h0 : v1 < 0
  · exact br_t h0 (br_t h0 ⟨rfl, I2⟩)
  · obtain ⟨j, hj, rfl⟩ := nI_of h0
    refine br_f h0 ?_
    by_cases hjn : j < n
    · have h1 : nI j < nI n := nI_lt hjn (by omega)
      refine br_t h1 (nm_r (e' := nI (70 + j)) (nI_add 70 j) ?_)
      have hsg := tm_sg_f (A := A) (Z := Z) hjn hn8
      obtain ⟨g1, g2, g3⟩ := (hsX (70 + j) (by omega)).1 _ _ hsg
      obtain ⟨f1, f2, f3⟩ := hsY j hjn
      refine xp_rcount hMX (by omega) (fun _ => ?_) (fun z => absurd (show tm_fn (70 + j) by omega) z)
      have hin : vp_in (nI (70 + j)) 256 := vp_in_nI (by omega) (by omega)
      have hin8 : vp_in (nI j) 8 := vp_in_nI (by omega) (by omega)
      rw [nI_clamp (n := 70 + j) (by omega), g1, g2, g3]
      refine ⟨hin, hin, hin, br_f h0 (br_t h1 ?_)⟩
      have a0 : hr (2 * j + 0) = if iv_R mX (4 * j) = [] then 0 else 1 := hH j 0 (by omega) (by omega)
      have a1 : hr (2 * j + 1) = if iv_R mX (4 * j + 2) = [] then 0 else 1 := hH j 1 (by omega) (by omega)
      unfold wY_funcInfo_30 wY_funcInfo_48
      rw [show (2 : Int32) * nI j = nI (2 * j + 0) from pk_mul 2 j, nI_1, nI_clamp (n := 2 * j + 0) (by omega), nI_clamp (n := 2 * j + 0 + 1) (by omega), nI_clamp (n := j) (by omega), f1, f2, f3]
      rw [show hr (2 * j + 0 + 1) = hr (2 * j + 1) from rfl, a0, a1]
      unfold rc_n
      rw [show 70 + j - 70 = j by omega]
      have i1 : vp_in (nI (2 * j + 0)) 16 := vp_in_nI (by omega) (by omega)
      have i2 : vp_in (nI (2 * j + 0 + 1)) 16 := vp_in_nI (by omega) (by omega)
      refine ⟨i1, ?_⟩
      by_cases e0 : iv_R mX (4 * j) = []
      · rw [if_pos e0]
        refine br_t rfl ⟨i2, ?_⟩
        by_cases e1 : iv_R mX (4 * j + 2) = []
        · rw [if_pos e1]
          exact br_t rfl (nm_e ⟨hin8, hin8, hin8, by rw [if_pos e0, if_pos e1]; rfl, I2⟩)
        · rw [if_neg e1]
          exact br_f (by decide) (nm_e ⟨hin8, hin8, hin8, by rw [if_pos e0, if_neg e1]; rfl, I2⟩)
      · rw [if_neg e0]
        refine br_f (by decide) ⟨i2, ?_⟩
        by_cases e1 : iv_R mX (4 * j + 2) = []
        · rw [if_pos e1]
          exact br_t rfl (nm_e ⟨hin8, hin8, hin8, by rw [if_neg e0, if_pos e1]; rfl, I2⟩)
        · rw [if_neg e1]
          exact br_f (by decide) (nm_e ⟨hin8, hin8, hin8, by rw [if_neg e0, if_neg e1]; rfl, I2⟩)
    · have h1 : ¬ nI j < nI n := nI_nlt (by omega) hj
      exact br_f h1 (br_f h0 (br_f h1 ⟨rfl, I2⟩))
theorem i_vc_feed {k : Nat} {u : SX} {v : SY} (I : i_Rel k u v) (hk : k + 5 ≤ 2560) (v1 : Int32) (v2 : Int32) (v3 : Int32) (v4 : Int32) : wpX_feed (fun r u' => wpY_feed (fun r' v' => r' = r ∧ i_Rel (k + 5) u' v') v v1 v2 v3 v4) u v1 v2 v3 v4 := by
  obtain ⟨n, q, ng, A, Z, hy, pr, val, e2, act, mX, mY, T, L, ay, gs, so, E, B, pv, vl, el, T', L', K, bo, bs, be, fa, fr, fe, hr, ft, hyA, vl', ee, wb, rfl, rfl, hI⟩ := I
  have hI0 := hI
  obtain ⟨hMX, hMY, hW, hL, hA, hsX, hsY, hP, hH, hHy, hvX, hvY⟩ := hI
  have h48 := hW.2.2.2.1
  have e0 : mY 0 = mX 0 := hL.1
  refine xp_feed hMX h48 (fun hle T1 L1 hM1 => ?_) (fun hgt T1 hM1 => ?_)
  · refine yp_feed hMY (by rw [e0]; exact h48) ?_ ?_
    · rw [e0]
      intro _ T2 L2 wb2 hM2
      refine ⟨rfl, re_mk (re_keep0 hI0 hM1 (fun s a b => cm_set_n (by omega)) hM2 (fun s a b => cm_set_n (by omega)) ?_ ?_)⟩
      · rw [cm_set_s, cm_set_s]
      · rw [cm_set_s, List.length_append]
        exact hle
    · rw [e0]
      intro z
      omega
  · refine yp_feed hMY (by rw [e0]; exact h48) ?_ ?_
    · rw [e0]
      intro z
      omega
    · rw [e0]
      intro _ wb2
      exact ⟨rfl, re_mk (re_keep hI0 hM1 (fun _ _ => rfl) hMY (fun _ _ => rfl))⟩
end
section
/-! 34: defineRule, conjecture -/
theorem i_vc_defineRule {k : Nat} {u : SX} {v : SY} (I : i_Rel k u v) (hk : k + 5 ≤ 2560) : wpX_defineRule (fun r u' => wpY_defineRule (fun r' v' => r' = r ∧ i_Rel (k + 5) u' v') v) u := by
  obtain ⟨n, q, ng, A, Z, hy, pr, val, e2, act, mX, mY, T, L, ay, gs, so, E, B, pv, vl, el, T', L', K, bo, bs, be, fa, fr, fe, hr, ft, hyA, vl', ee, wb, rfl, rfl, hI⟩ := I
  have hI0 := hI
  obtain ⟨hMX, hMY, hW, hL, hA, hsX, hsY, hP, hH, hHy, hvX, hvY⟩ := hI
  have h48 := hW.2.2.2.1
  have e0 : mY 0 = mX 0 := hL.1
  have hS := hW.1
  have hn8 := hS.1
  have g61 : tm_sg n A Z 61 = none := eq_sym hS.1
  have huq : ∀ {e e'}, eq_Q (tm_sg n A Z) (mX 0) e → eq_Q (tm_sg n A Z) (mX 0) e' → e' = e := fun h h' => eq_Q_only g61 h h'.1 h'.2.1
  have hXn := cm_nil hMX (s := 0) (by omega)
  have hkeep : ∀ T2 L2 m2, cm_M 64 89 T2 L2 m2 → m2 0 = [] → (∀ s, 1 ≤ s → s < 81 → m2 s = mY s) → re_I n q ng A Z hy pr val e2 act (cm_set mX 0 []) m2 T (upd L 0 0) ay gs so pv vl el T2 L2 fa fr fe hr ft hyA vl' ee := by
    intro T2 L2 m2 hM2 h20 f2
    refine re_keep0 hI0 hXn (fun s a b => cm_set_n (by omega)) hM2 f2 ?_ ?_
    · rw [h20, cm_set_s]
    · rw [cm_set_s]
      exact Nat.zero_le _
  refine xp_define hW hsX hMX (fun hno => ?_) (fun e hQ hF => ?_) (fun e kd hQ hF hkd hne => ?_) (fun e kd T1 L1 m1 hQ hF hkd hnil hM1 x0 x1 x2 x3 => ?_)
  · refine yp_define (R := iv_R mX) hS hsY hMY hH (by rw [e0]; exact h48) ?_ ?_ ?_ ?_ <;> rw [e0]
    · exact fun _ T2 L2 K2 m2 hM2 h20 f2 => ⟨rfl, re_mk (hkeep T2 L2 m2 hM2 h20 f2)⟩
    · exact fun e hQ => absurd hQ (hno e)
    · exact fun e kd hQ => absurd hQ (hno e)
    · exact fun e kd hQ => absurd hQ (hno e)
  · refine yp_define (R := iv_R mX) hS hsY hMY hH (by rw [e0]; exact h48) ?_ ?_ ?_ ?_ <;> rw [e0]
    · exact fun hno => absurd hQ (hno e)
    · exact fun _ _ _ T2 L2 K2 m2 hM2 h20 f2 => ⟨rfl, re_mk (hkeep T2 L2 m2 hM2 h20 f2)⟩
    · intro e' kd hQ' hF'
      rw [huq hQ hQ'] at hF'
      exact absurd hF' hF
    · intro e' kd hQ' hF'
      rw [huq hQ hQ'] at hF'
      exact absurd hF' hF
  · refine yp_define (R := iv_R mX) hS hsY hMY hH (by rw [e0]; exact h48) ?_ ?_ ?_ ?_ <;> rw [e0]
    · exact fun hno => absurd hQ (hno e)
    · intro e' hQ' hF'
      rw [huq hQ hQ'] at hF'
      exact absurd hF hF'
    · exact fun _ _ _ _ _ _ T2 L2 K2 m2 hM2 h20 f2 => ⟨rfl, re_mk (hkeep T2 L2 m2 hM2 h20 f2)⟩
    · intro e' kd' hQ' hF' hkd' hnil
      rw [hkd] at hkd'
      rw [← Option.some.inj hkd'] at hnil
      exact absurd hnil hne
  · refine yp_define (R := iv_R mX) hS hsY hMY hH (by rw [e0]; exact h48) ?_ ?_ ?_ ?_ <;> rw [e0]
    · exact fun hno => absurd hQ (hno e)
    · intro e' hQ' hF'
      rw [huq hQ hQ'] at hF'
      exact absurd hF hF'
    · intro e' kd' hQ' hF' hkd' hne
      rw [hkd] at hkd'
      rw [← Option.some.inj hkd'] at hne
      exact absurd hnil hne
    · intro e' kd' hQ' hF' hkd' hnil' T2 L2 K2 m2 hM2 y0 y1 y2 y3
      rw [hkd] at hkd'
      obtain rfl := Option.some.inj hkd'
      obtain rfl := huq hQ hQ'
      refine ⟨rfl, ?_⟩
      have hfn : tm_fn (tm_at (mX 0) 0) := hF.1.1
      have hk2 : kd < 2 := by
        have := tm_kd_c hkd
        omega
      obtain ⟨qe, q61, sv, p1, p2⟩ := hQ
      have epos : 0 < e' := by
        have := tm_P_ne p1
        rw [List.length_take] at this
        omega
      have hdec : tm_at (mX 0) 0 < 70 + n := by
        refine yi_fn hS p1 ?_ hfn
        rw [← tm_at_take (w := mX 0) epos]
        exact tm_at_mem (by rw [List.length_take]; omega)
      generalize hf9 : tm_at (mX 0) 0 - 70 = f9 at *
      have hf8 : f9 < 8 := by omega
      have hfn9 : f9 < n := by omega
      have hneR : ∀ i, i < 32 → iv_R mX i ≠ [] → iv_R m1 i ≠ [] := by
        intro i hi hn
        by_cases q1 : i = 4 * f9 + 2 * kd
        · rw [q1] at hn
          exact absurd hnil hn
        · by_cases q2 : i = 4 * f9 + 2 * kd + 1
          · rw [q2] at hn
            exact absurd ((hW.2.2.2.2.2.1.2.1 f9 kd hf8 hk2).2 hnil) hn
          · show m1 (17 + i) ≠ []
            rw [x3 _ (by omega) (by omega) (by omega)]
            exact hn
      have hRW := eq_RW (R := iv_R mX) (R' := iv_R m1) (k := kd) ⟨qe, q61, sv, p1, p2⟩ hF hkd (by rw [hf9]; exact x1) (by rw [hf9]; exact x2) hneR
      rw [hf9] at hRW
      have hW2 : iv_W n A Z q ng hy m1 := by
        refine iv_W_rule (f := f9) (k := kd) hf8 hk2 hfn9 hnil (fun s a b c d => x3 s (by omega) c d) ?_ ?_ ?_ hW hRW
        · rw [x0]
          exact Nat.zero_le _
        · rw [x1, List.length_take]
          omega
        · rw [x2, List.length_drop]
          omega
      refine re_mk ⟨hM1, hM2, hW2, ⟨by rw [x0, y0], fun i hi => ?_, fun i hi => ?_, fun j hj => ?_⟩, hA, hsX, hsY, hP, ?_, hHy, hvX, hvY⟩
      · rw [x3 _ (by omega) (by omega) (by omega), y3 _ (by omega) (by omega) (by omega) (by omega)]
        exact hL.2.1 i hi
      · by_cases q1 : i = 4 * f9 + 2 * kd
        · rw [q1, x1, y1]
        · by_cases q2 : i = 4 * f9 + 2 * kd + 1
          · rw [q2, x2, y2]
          · rw [x3 _ (by omega) (by omega) (by omega), y3 _ (by omega) (by omega) (by omega) (by omega)]
            exact hL.2.2.1 i hi
      · have hg8 := hW.2.2.1
        rw [x3 (49 + 4 * j) (by omega) (by omega) (by omega), x3 (49 + 4 * j + 1) (by omega) (by omega) (by omega), x3 (49 + 4 * j + 2) (by omega) (by omega) (by omega), x3 (49 + 4 * j + 3) (by omega) (by omega) (by omega), y3 (49 + 4 * j) (by omega) (by omega) (by omega) (by omega), y3 (49 + 4 * j + 1) (by omega) (by omega) (by omega) (by omega), y3 (49 + 4 * j + 2) (by omega) (by omega) (by omega) (by omega), y3 (49 + 4 * j + 3) (by omega) (by omega) (by omega) (by omega)]
        exact hL.2.2.2 j hj
      · intro f k3 hf hk3
        have hx1 : iv_R m1 (4 * f9 + 2 * kd) = (mX 0).take e' := x1
        by_cases q1 : f = f9 ∧ k3 = kd
        · obtain ⟨rfl, rfl⟩ := q1
          rw [cm_us, hx1, if_neg]
          intro z
          have := congrArg List.length z
          rw [List.length_take, List.length_nil] at this
          omega
        · rw [cm_un (by omega), hH f k3 hf hk3]
          have : iv_R m1 (4 * f + 2 * k3) = iv_R mX (4 * f + 2 * k3) := x3 _ (by omega) (by omega) (by omega)
          rw [this]
theorem i_vc_conjecture {k : Nat} {u : SX} {v : SY} (I : i_Rel k u v) (hk : k + 5 ≤ 2560) : wpX_conjecture (fun r u' => wpY_conjecture (fun r' v' => r' = r ∧ i_Rel (k + 5) u' v') v) u := by
  obtain ⟨n, q, ng, A, Z, hy, pr, val, e2, act, mX, mY, T, L, ay, gs, so, E, B, pv, vl, el, T', L', K, bo, bs, be, fa, fr, fe, hr, ft, hyA, vl', ee, wb, rfl, rfl, hI⟩ := I
  have hI0 := hI
  obtain ⟨hMX, hMY, hW, hL, hA, hsX, hsY, hP, hH, hHy, hvX, hvY⟩ := hI
  have h48 := hW.2.2.2.1
  have e0 : mY 0 = mX 0 := hL.1
  have hS := hW.1
  have hq8 := hW.2.1
  have hn8 := hS.1
  have g61 : tm_sg n A Z 61 = none := eq_sym hS.1
  have huq : ∀ {e e'}, eq_Q (tm_sg n A Z) (mX 0) e → eq_Q (tm_sg n A Z) (mX 0) e' → e' = e := fun h h' => eq_Q_only g61 h h'.1 h'.2.1
  have hXn := cm_nil hMX (s := 0) (by omega)
  have hact : act < 0 ∨ ∃ k, k < 8 ∧ act = nI k := by
    rcases re_act hI0 with ⟨z, _⟩ | ⟨kk, _, k2, k3, _⟩
    · left
      rw [z]
      decide
    · exact Or.inr ⟨kk, k2, k3⟩
  have hkeep : ∀ T2 L2 m2, cm_M 64 89 T2 L2 m2 → m2 0 = [] → (∀ s, 1 ≤ s → s < 81 → m2 s = mY s) → re_I n q ng A Z hy pr val e2 act (cm_set mX 0 []) m2 T (upd L 0 0) ay gs so pv vl el T2 L2 fa fr fe hr ft hyA vl' ee := by
    intro T2 L2 m2 hM2 h20 f2
    refine re_keep0 hI0 hXn (fun s a b => cm_set_n (by omega)) hM2 f2 ?_ ?_
    · rw [h20, cm_set_s]
    · rw [cm_set_s]
      exact Nat.zero_le _
  refine xp_conj hW hsX hMX (fun hno => ?_) (fun e hQ hF => ?_) (fun e hQ hF hq9 => ?_) (fun e T1 L1 m1 hQ hF hq9 hM1 x0 x1 x2 x3 x4 x5 x6 x7 => ?_)
  · refine yp_conj (R := iv_R mX) hS hsY hMY hH (by rw [e0]; exact h48) hq8 hact ?_ ?_ ?_ ?_ <;> rw [e0]
    · exact fun _ T2 L2 K2 m2 hM2 h20 f2 => ⟨rfl, re_mk (hkeep T2 L2 m2 hM2 h20 f2)⟩
    · exact fun e hQ => absurd hQ (hno e)
    · exact fun e hQ => absurd hQ (hno e)
    · exact fun e hQ => absurd hQ (hno e)
  · refine yp_conj (R := iv_R mX) hS hsY hMY hH (by rw [e0]; exact h48) hq8 hact ?_ ?_ ?_ ?_ <;> rw [e0]
    · exact fun hno => absurd hQ (hno e)
    · exact fun _ _ _ T2 L2 K2 m2 hM2 h20 f2 => ⟨rfl, re_mk (hkeep T2 L2 m2 hM2 h20 f2)⟩
    · exact fun _ _ h => absurd h hF
    · exact fun _ _ h => absurd h hF
  · refine yp_conj (R := iv_R mX) hS hsY hMY hH (by rw [e0]; exact h48) hq8 hact ?_ ?_ ?_ ?_ <;> rw [e0]
    · exact fun hno => absurd hQ (hno e)
    · exact fun _ _ h => absurd hF h
    · exact fun _ _ _ _ T2 L2 K2 m2 hM2 h20 f2 => ⟨rfl, re_mk (hkeep T2 L2 m2 hM2 h20 f2)⟩
    · exact fun _ _ _ h => absurd h (by omega)
  · refine yp_conj (R := iv_R mX) hS hsY hMY hH (by rw [e0]; exact h48) hq8 hact ?_ ?_ ?_ ?_ <;> rw [e0]
    · exact fun hno => absurd hQ (hno e)
    · exact fun _ _ h => absurd hF h
    · exact fun _ _ _ h => absurd h (by omega)
    · intro e' hQ' _ _ T2 L2 K2 m2 hM2 y0 y1 y2 y3 y4 y5
      obtain rfl := huq hQ hQ'
      refine ⟨rfl, ?_⟩
      obtain ⟨qe, q61, sv, p1, p2⟩ := hQ
      have hE : iv_E (tm_sg n A Z) (iv_R mX) (m1 (1 + 2 * q)) (m1 (1 + 2 * q + 1)) := by
        rw [x1, x2]
        refine ⟨sv, p1, p2, fun c hc hf => hF c (List.mem_of_mem_take hc) hf, fun c hc hf => hF c (List.mem_of_mem_drop hc) hf, ?_, ?_⟩
        · rw [List.length_take]
          omega
        · rw [List.length_drop]
          omega
      have hW2 : iv_W n A Z (q + 1) 1 (fun _ => false) m1 := iv_W_conj hq9 (fun s a b c d => x7 s (by omega) c d (by omega) (by omega) (by omega) (by omega)) (by rw [x0]; exact Nat.zero_le _) hE (by rw [x3, x1]) (by rw [x4, x2]) x5 x6 rfl hW
      refine re_mk (ng := 1) (q := q + 1) (hy := fun _ => false) ⟨hM1, hM2, hW2, ⟨by rw [x0, y0], fun i hi => ?_, fun i hi => ?_, fun j hj => ?_⟩, Or.inr ⟨q, by omega, rfl, Nat.le_refl _, (hP q (by omega)).2.1 (Nat.le_refl _)⟩, hsX, hsY, ?_, ?_, ?_, hvX, hvY⟩
      · by_cases q1 : i = 2 * q
        · rw [q1, x1, y1]
        · by_cases q2 : i = 2 * q + 1
          · rw [q2]
            exact y2.trans x2.symm
          · rw [x7 _ (by omega) (by omega) (by omega) (by omega) (by omega) (by omega) (by omega), y5 _ (by omega) (by omega) (by omega) (by omega) (by omega) (by omega)]
            exact hL.2.1 i hi
      · rw [x7 _ (by omega) (by omega) (by omega) (by omega) (by omega) (by omega) (by omega), y5 _ (by omega) (by omega) (by omega) (by omega) (by omega) (by omega)]
        exact hL.2.2.1 i hi
      · have : j = 0 := by omega
        subst this
        exact ⟨y3.trans x3.symm, y4.trans x4.symm, fun z => nomatch z⟩
      · intro j hj
        obtain ⟨r1, r2, r3⟩ := hP j hj
        refine ⟨r1, fun z => r2 (by omega), ?_⟩
        by_cases q1 : j = q
        · subst q1
          rw [cm_us, r2 (Nat.le_refl _), if_neg (by decide), if_pos (by omega), if_pos rfl]
        · have hfo : yo_ft act ft j = if pr j = true then 3 else if j < q then 1 else 0 := by
            unfold yo_ft
            rcases re_act hI0 with ⟨rfl, _⟩ | ⟨kk, k1, k2, rfl, _, _, k5⟩
            · rw [if_pos (show (-1 : Int32) < 0 by decide)]
              rw [if_neg (show ¬ (-1 : Int32) = nI j from fun z => xi_neg (by omega) z.symm)] at r3
              exact r3
            · rw [if_neg (show ¬ nI kk < 0 from nI_pos (by omega)), nI_clamp (show kk < 2 ^ 31 by omega)]
              by_cases q2 : j = kk
              · rw [q2, cm_us, k5, if_neg (by decide), if_pos k1]
              · rw [cm_un q2]
                rw [if_neg (show ¬ nI kk = nI j from fun z => q2 ((nI_eq (by omega) (by omega)).mp z).symm)] at r3
                exact r3
          rw [cm_un q1, hfo]
          by_cases hpj : pr j = true
          · rw [if_pos hpj, if_pos hpj]
          · rw [if_neg hpj, if_neg hpj]
            by_cases hjq : j < q
            · rw [if_pos hjq, if_pos (show j < q + 1 by omega), if_neg (show ¬ nI q = nI j from fun z => q1 ((nI_eq (by omega) (by omega)).mp z).symm)]
            · rw [if_neg hjq, if_neg (show ¬ j < q + 1 by omega)]
      · exact re_Hext (re_Rext (fun s a b => x7 s (by omega) (by omega) (by omega) (by omega) (by omega) (by omega) (by omega))) hH
      · intro j hj
        have : j = 0 := by omega
        subst this
        rw [cm_us]
        rfl
end
section
/-! 35: simp, useHyp, useLemma -/
section VC
variable {k n q ng kk : Nat} {A : Nat → List Nat} {Z : Nat → Nat} {hy pr : Nat → Bool} {val : Nat → Nat} {e2 : Nat → Nat → Nat} {mX mY : Nat → List Nat} {T L ay gs so E B pv vl el T' L' K bo bs be fa fr fe hr ft hyA vl' ee wb : Nat → Int32}
/-- what a settled goal gives on both sides -/
theorem re_fin {T2 L2 T3 L3 E2 B2 bo3 bs3 be3 : Nat → Int32} {mX2 mY2 : Nat → List Nat} {l r x y : List Nat} {sv : Nat} (hI0 : re_I n q ng A Z hy pr val e2 (nI kk) mX mY T L ay gs so pv vl el T' L' fa fr fe hr ft hyA vl' ee) (k1 : kk < q) (k3 : 1 ≤ ng) (wl : tm_P (tm_sg n A Z) [sv] l ∧ tm_FC (iv_R mX) l) (wr : tm_P (tm_sg n A Z) [sv] r ∧ tm_FC (iv_R mX) r) (hx : tm_N (tm_sg n A Z) (iv_R mX) l = some x) (hyy : tm_N (tm_sg n A Z) (iv_R mX) r = some y)
    (hM2 : cm_M 49 86 T2 L2 mX2) (a1 : mX2 (49 + 4 * (ng - 1)) = x) (a2 : mX2 (49 + 4 * (ng - 1) + 1) = y) (a3 : ∀ s, s < 81 → s ≠ 49 + 4 * (ng - 1) → s ≠ 49 + 4 * (ng - 1) + 1 → mX2 s = mX s) (hM3 : cm_M 64 89 T3 L3 mY2) (b1 : mY2 (49 + 4 * (ng - 1)) = x) (b2 : mY2 (49 + 4 * (ng - 1) + 1) = y) (b3 : ∀ s, s < 81 → s ≠ 49 + 4 * (ng - 1) → s ≠ 49 + 4 * (ng - 1) + 1 → mY2 s = mY s) :
    i_Rel (k + 5) (nI n, nI q, nI kk, nI ng, T2, L2, ay, gs, so, E2, B2, pv, vl, el) (nI n, nI q, nI ng, nI kk, T3, L3, K, bo3, bs3, be3, fa, fr, fe, hr, ft, hyA, vl', ee, wb) ∧ (ng = 1 → i_Rel (k + 5) (nI n, nI q, -1, 0, T2, L2, ay, gs, so, E2, B2, upd pv kk 1, vl, el) (nI n, nI q, 0, -1, T3, L3, K, bo3, bs3, be3, fa, fr, fe, hr, upd ft kk 3, hyA, vl', ee, wb)) ∧ (1 < ng → i_Rel (k + 5) (nI n, nI q, nI kk, nI (ng - 1), T2, L2, ay, gs, so, E2, B2, pv, vl, el) (nI n, nI q, nI (ng - 1), nI kk, T3, L3, K, bo3, bs3, be3, fa, fr, fe, hr, ft, hyA, vl', ee, wb)) := by
  have hS := hI0.2.2.1.1
  have hRU := hI0.2.2.1.2.2.2.2.2.1.1
  have h48 := hI0.2.2.1.2.2.2.1
  have h00 := hI0.2.2.2.1.1
  obtain ⟨x1, x2, x3⟩ := tm_N_ok (tm_sg_GS hS) hRU (fun _ => wl) hx
  obtain ⟨y1, y2, y3⟩ := tm_N_ok (tm_sg_GS hS) hRU (fun _ => wr) hyy
  have hG := re_goal hI0 k3 hM2 (fun s _ b c d => a3 s b c d) hM3 (fun s _ b c d => b3 s b c d) (by rw [a3 0 (by omega) (by omega) (by omega), b3 0 (by omega) (by omega) (by omega)]; exact h00) (by rw [a3 0 (by omega) (by omega) (by omega)]; exact h48) (by rw [a1, b1]) (by rw [a2, b2]) (by rw [a1, a2]; exact ⟨sv, x1, y1, x2, y2, x3, y3⟩)
  refine ⟨re_mk hG, fun z => ?_, fun z => re_mk (re_pop hG z)⟩
  subst z
  exact re_mk (re_done hG k1)
end VC
theorem i_vc_simp {k : Nat} {u : SX} {v : SY} (I : i_Rel k u v) (hk : k + 5 ≤ 2560) : wpX_simp (fun r u' => wpY_simp (fun r' v' => r' = r ∧ i_Rel (k + 5) u' v') v) u := by
  have I2 := I
  obtain ⟨n, q, ng, A, Z, hy, pr, val, e2, act, mX, mY, T, L, ay, gs, so, E, B, pv, vl, el, T', L', K, bo, bs, be, fa, fr, fe, hr, ft, hyA, vl', ee, wb, rfl, rfl, hI⟩ := I
  have hI0 := hI
  obtain ⟨hMX, hMY, hW, hL, hA, hsX, hsY, hP, hH, hHy, hvX, hvY⟩ := hI
  rcases re_act hI0 with ⟨rfl, rfl⟩ | ⟨kk, k1, k2, rfl, k3, k4, k5⟩
  · unfold wpX_simp wpY_simp
    dsimp only
    exact br_f (by decide) (br_f (by decide) ⟨rfl, I2⟩)
  ·
    have hS := hW.1
    have hRU := hW.2.2.2.2.2.1.1
    have hq8 := hW.2.1
    obtain ⟨⟨sv, w1, w2, w3, w4, w5, w6⟩, hyt, hyf⟩ := hW.2.2.2.2.2.2 (ng - 1) (by omega)
    obtain ⟨l1, l2, l3⟩ := hL.2.2.2 (ng - 1) (by omega)
    have hRm : ∀ i, i < 32 → mY (1 + i) = iv_R mX i := hL.2.2.1
    have hV := (tm_sg_GS hS).1
    refine xp_simp k2 hW hsX hMX k3 (fun hno T1 L1 E1 B1 m1 hM1 f1 => ?_) (fun x y T1 L1 E1 B1 m1 hx hyy hM1 a1 a2 a3 => ?_)
    · refine yp_simp (R := iv_R mX) (s1 := sv) (s2 := sv) hS hsY hRU hH hMY hRm k2 k3 k4 (by rw [l1]; exact ⟨w1, w3⟩) (by rw [l2]; exact ⟨w2, w4⟩) (by rw [l1]; exact w5) (by rw [l2]; exact w6) ?_ ?_ <;> rw [l1, l2]
      · exact fun _ T2 L2 bo2 bs2 be2 m2 hM2 f2 => ⟨rfl, re_mk (re_keep hI0 hM1 f1 hM2 f2)⟩
      · intro x y T2 L2 bo2 bs2 be2 m2 hx hyy
        rcases hno with z | z
        · rw [hx] at z; cases z
        · rw [hyy] at z; cases z
    · have hYY : ∀ (Q : Int32 → SY → Prop), (∀ T2 L2 bo2 bs2 be2 m2, cm_M 64 89 T2 L2 m2 → m2 (49 + 4 * (ng - 1)) = x → m2 (49 + 4 * (ng - 1) + 1) = y → (∀ s, s < 81 → s ≠ 49 + 4 * (ng - 1) → s ≠ 49 + 4 * (ng - 1) + 1 → m2 s = mY s) → (x ≠ y → Q (nI ng) (nI n, nI q, nI ng, nI kk, T2, L2, K, bo2, bs2, be2, fa, fr, fe, hr, ft, hyA, vl', ee, wb)) ∧ (x = y → ng = 1 → Q 0 (nI n, nI q, 0, -1, T2, L2, K, bo2, bs2, be2, fa, fr, fe, hr, upd ft kk 3, hyA, vl', ee, wb)) ∧ (x = y → 1 < ng → Q (nI (ng - 1)) (nI n, nI q, nI (ng - 1), nI kk, T2, L2, K, bo2, bs2, be2, fa, fr, fe, hr, ft, hyA, vl', ee, wb))) → wpY_simp Q (nI n, nI q, nI ng, nI kk, T', L', K, bo, bs, be, fa, fr, fe, hr, ft, hyA, vl', ee, wb) := by
        intro Q hQ
        refine yp_simp (R := iv_R mX) (s1 := sv) (s2 := sv) hS hsY hRU hH hMY hRm k2 k3 k4 (by rw [l1]; exact ⟨w1, w3⟩) (by rw [l2]; exact ⟨w2, w4⟩) (by rw [l1]; exact w5) (by rw [l2]; exact w6) ?_ ?_ <;> rw [l1, l2]
        · intro z
          rcases z with z | z
          · rw [hx] at z; cases z
          · rw [hyy] at z; cases z
        · intro x' y' T2 L2 bo2 bs2 be2 m2 hx' hy' hM2 b1 b2 b3
          rw [hx] at hx'
          rw [hyy] at hy'
          obtain rfl := Option.some.inj hx'
          obtain rfl := Option.some.inj hy'
          exact hQ T2 L2 bo2 bs2 be2 m2 hM2 b1 b2 b3
      refine ⟨fun z => hYY _ (fun T2 L2 bo2 bs2 be2 m2 hM2 b1 b2 b3 => ⟨fun _ => ⟨rfl, (re_fin hI0 k1 k3 ⟨w1, w3⟩ ⟨w2, w4⟩ hx hyy hM1 a1 a2 a3 hM2 b1 b2 b3).1⟩, fun y => absurd y z, fun y => absurd y z⟩), fun z z1 => hYY _ (fun T2 L2 bo2 bs2 be2 m2 hM2 b1 b2 b3 => ⟨fun y => absurd z y, fun _ _ => ⟨rfl, (re_fin hI0 k1 k3 ⟨w1, w3⟩ ⟨w2, w4⟩ hx hyy hM1 a1 a2 a3 hM2 b1 b2 b3).2.1 z1⟩, fun _ y => by omega⟩), fun z z1 => hYY _ (fun T2 L2 bo2 bs2 be2 m2 hM2 b1 b2 b3 => ⟨fun y => absurd z y, fun _ y => by omega, fun _ _ => ⟨rfl, (re_fin hI0 k1 k3 ⟨w1, w3⟩ ⟨w2, w4⟩ hx hyy hM1 a1 a2 a3 hM2 b1 b2 b3).2.2 z1⟩⟩)⟩
end
section
/-! 36: useHyp, useLemma -/
theorem i_vc_useHyp {k : Nat} {u : SX} {v : SY} (I : i_Rel k u v) (hk : k + 5 ≤ 2560) (v1 : Int32) : wpX_useHyp (fun r u' => wpY_useHyp (fun r' v' => r' = r ∧ i_Rel (k + 5) u' v') v v1) u v1 := by
  have I2 := I
  obtain ⟨n, q, ng, A, Z, hy, pr, val, e2, act, mX, mY, T, L, ay, gs, so, E, B, pv, vl, el, T', L', K, bo, bs, be, fa, fr, fe, hr, ft, hyA, vl', ee, wb, rfl, rfl, hI⟩ := I
  have hI0 := hI
  obtain ⟨hMX, hMY, hW, hL, hA, hsX, hsY, hP, hH, hHy, hvX, hvY⟩ := hI
  rcases re_act hI0 with ⟨rfl, rfl⟩ | ⟨kk, k1, k2, rfl, k3, k4, k5⟩
  · unfold wpX_useHyp wpY_useHyp
    dsimp only
    exact br_f (by decide) (br_f (by decide) ⟨rfl, I2⟩)
  ·
    have hS := hW.1
    have hRU := hW.2.2.2.2.2.1.1
    have hq8 := hW.2.1
    obtain ⟨⟨sv, w1, w2, w3, w4, w5, w6⟩, hyt, hyf⟩ := hW.2.2.2.2.2.2 (ng - 1) (by omega)
    obtain ⟨l1, l2, l3⟩ := hL.2.2.2 (ng - 1) (by omega)
    have hRm : ∀ i, i < 32 → mY (1 + i) = iv_R mX i := hL.2.2.1
    have hV := (tm_sg_GS hS).1
    have hmain : ∀ f p, (f = 49 + 4 * (ng - 1) + 2 ∧ p = 49 + 4 * (ng - 1) + 3 ∧ v1 = 0) ∨ (f = 49 + 4 * (ng - 1) + 3 ∧ p = 49 + 4 * (ng - 1) + 2 ∧ v1 = 1) → (∀ Q, wY_useHyp_22 Q v1 (nI n) (nI q) (nI ng) (nI kk) T' L' K bo bs be fa fr fe hr ft hyA vl' ee wb → wpY_useHyp Q (nI n, nI q, nI ng, nI kk, T', L', K, bo, bs, be, fa, fr, fe, hr, ft, hyA, vl', ee, wb) v1) → wX_useHyp_22 (fun r u' => wpY_useHyp (fun r' v' => r' = r ∧ i_Rel (k + 5) u' v') (nI n, nI q, nI ng, nI kk, T', L', K, bo, bs, be, fa, fr, fe, hr, ft, hyA, vl', ee, wb) v1) v1 (nI n) (nI q) (nI kk) (nI ng) T L ay gs so E B pv vl el := by
      intro f p hfp hwrap
      have hfl : hy (ng - 1) = true → mY f = mX f ∧ mY p = mX p := by
        intro hyv
        obtain ⟨z1, z2⟩ := l3 hyv
        rcases hfp with ⟨rfl, rfl, _⟩ | ⟨rfl, rfl, _⟩
        · exact ⟨z1, z2⟩
        · exact ⟨z2, z1⟩
      have hEf : hy (ng - 1) = true → ∃ sf, tm_P (tm_sg n A Z) [sf] (mX f) ∧ tm_P (tm_sg n A Z) [sf] (mX p) ∧ tm_FC (iv_R mX) (mX p) := by
        intro hyv
        obtain ⟨sh, v1, v2, v3, v4, v5, v6⟩ := hyt hyv
        rcases hfp with ⟨rfl, rfl, _⟩ | ⟨rfl, rfl, _⟩
        · exact ⟨sh, v1, v2, v4⟩
        · exact ⟨sh, v2, v1, v3⟩
      have hytY : hy (ng - 1) = true → ∃ sf, tm_P (tm_sg n A Z) [sf] (mY f) ∧ tm_P (tm_sg n A Z) [sf] (mY p) ∧ tm_FC (iv_R mX) (mY p) := by
        intro hyv
        rw [(hfl hyv).1, (hfl hyv).2]
        exact hEf hyv
      refine xp_useHyp (f := f) (p := p) k2 hW hsX hMX k3 hfp (fun hyv => ?_) (fun hyv hz T1 L1 E1 B1 m1 hM1 f1 => ?_) (fun hyv hz hno T1 L1 E1 B1 m1 hM1 f1 => ?_) (fun hyv hz x y T1 L1 E1 B1 m1 hx hyy hM1 a1 a2 a3 => ?_)
      · refine hwrap _ (yp_useHyp (R := iv_R mX) (s1 := sv) (s2 := sv) (f := f) (p := p) (hyv := hy (ng - 1)) hS hsY hRU hH hMY hRm k2 k3 k4 (by rw [l1]; exact ⟨w1, w3⟩) (by rw [l2]; exact ⟨w2, w4⟩) (by rw [l1]; exact w5) (by rw [l2]; exact w6) (hHy (ng - 1) (by omega)) hytY hfp ?_ ?_ ?_ ?_)
        · exact fun _ => ⟨rfl, I2⟩
        · intro z; rw [hyv] at z; cases z
        · intro z; rw [hyv] at z; cases z
        · intro z; rw [hyv] at z; cases z
      · refine hwrap _ (yp_useHyp (R := iv_R mX) (s1 := sv) (s2 := sv) (f := f) (p := p) (hyv := hy (ng - 1)) hS hsY hRU hH hMY hRm k2 k3 k4 (by rw [l1]; exact ⟨w1, w3⟩) (by rw [l2]; exact ⟨w2, w4⟩) (by rw [l1]; exact w5) (by rw [l2]; exact w6) (hHy (ng - 1) (by omega)) hytY hfp ?_ ?_ ?_ ?_)
        · intro z; rw [hyv] at z; cases z
        · exact fun _ _ T2 L2 bo2 bs2 be2 m2 hM2 f2 => ⟨rfl, re_mk (re_keep hI0 hM1 f1 hM2 f2)⟩
        · rw [l1, l2, (hfl hyv).1, (hfl hyv).2]
          exact fun _ z => absurd hz z
        · rw [l1, l2, (hfl hyv).1, (hfl hyv).2]
          exact fun _ z => absurd hz z
      · refine hwrap _ (yp_useHyp (R := iv_R mX) (s1 := sv) (s2 := sv) (f := f) (p := p) (hyv := hy (ng - 1)) hS hsY hRU hH hMY hRm k2 k3 k4 (by rw [l1]; exact ⟨w1, w3⟩) (by rw [l2]; exact ⟨w2, w4⟩) (by rw [l1]; exact w5) (by rw [l2]; exact w6) (hHy (ng - 1) (by omega)) hytY hfp ?_ ?_ ?_ ?_)
        · intro z; rw [hyv] at z; cases z
        · rw [l1, l2, (hfl hyv).1, (hfl hyv).2]
          exact fun _ z => absurd z hz
        · exact fun _ _ _ T2 L2 bo2 bs2 be2 m2 hM2 f2 => ⟨rfl, re_mk (re_keep hI0 hM1 f1 hM2 f2)⟩
        · rw [l1, l2, (hfl hyv).1, (hfl hyv).2]
          intro _ _ x y T2 L2 bo2 bs2 be2 m2 hx hyy
          rcases hno with z | z; (rw [hx] at z; cases z); (rw [hyy] at z; cases z)
      · have hYY : ∀ (Q : Int32 → SY → Prop), (∀ T2 L2 bo2 bs2 be2 m2, cm_M 64 89 T2 L2 m2 → m2 (49 + 4 * (ng - 1)) = x → m2 (49 + 4 * (ng - 1) + 1) = y → (∀ s, s < 81 → s ≠ 49 + 4 * (ng - 1) → s ≠ 49 + 4 * (ng - 1) + 1 → m2 s = mY s) → (x ≠ y → Q (nI ng) (nI n, nI q, nI ng, nI kk, T2, L2, K, bo2, bs2, be2, fa, fr, fe, hr, ft, hyA, vl', ee, wb)) ∧ (x = y → ng = 1 → Q 0 (nI n, nI q, 0, -1, T2, L2, K, bo2, bs2, be2, fa, fr, fe, hr, upd ft kk 3, hyA, vl', ee, wb)) ∧ (x = y → 1 < ng → Q (nI (ng - 1)) (nI n, nI q, nI (ng - 1), nI kk, T2, L2, K, bo2, bs2, be2, fa, fr, fe, hr, ft, hyA, vl', ee, wb))) → wpY_useHyp Q (nI n, nI q, nI ng, nI kk, T', L', K, bo, bs, be, fa, fr, fe, hr, ft, hyA, vl', ee, wb) v1 := by
          intro Q hQ
          refine hwrap _ (yp_useHyp (R := iv_R mX) (s1 := sv) (s2 := sv) (f := f) (p := p) (hyv := hy (ng - 1)) hS hsY hRU hH hMY hRm k2 k3 k4 (by rw [l1]; exact ⟨w1, w3⟩) (by rw [l2]; exact ⟨w2, w4⟩) (by rw [l1]; exact w5) (by rw [l2]; exact w6) (hHy (ng - 1) (by omega)) hytY hfp ?_ ?_ ?_ ?_)
          · intro z; rw [hyv] at z; cases z
          · rw [l1, l2, (hfl hyv).1, (hfl hyv).2]
            exact fun _ z => absurd z hz
          · rw [l1, l2, (hfl hyv).1, (hfl hyv).2]
            intro _ _ z
            rcases z with z | z; (rw [hx] at z; cases z); (rw [hyy] at z; cases z)
          · rw [l1, l2, (hfl hyv).1, (hfl hyv).2]
            intro _ _
            intro x' y' T2 L2 bo2 bs2 be2 m2 hx' hy' hM2 b1 b2 b3
            rw [hx] at hx'
            rw [hyy] at hy'
            obtain rfl := Option.some.inj hx'
            obtain rfl := Option.some.inj hy'
            exact hQ T2 L2 bo2 bs2 be2 m2 hM2 b1 b2 b3
        obtain ⟨sf, q1, q2, q3⟩ := hEf hyv
        refine ⟨fun z => hYY _ (fun T2 L2 bo2 bs2 be2 m2 hM2 b1 b2 b3 => ⟨fun _ => ⟨rfl, (re_fin hI0 k1 k3 (iv_Rok hV w1 w3 q1 q2 q3 (Or.inl rfl)) (iv_Rok hV w2 w4 q1 q2 q3 (Or.inl rfl)) hx hyy hM1 a1 a2 a3 hM2 b1 b2 b3).1⟩, fun y => absurd y z, fun y => absurd y z⟩), fun z z1 => hYY _ (fun T2 L2 bo2 bs2 be2 m2 hM2 b1 b2 b3 => ⟨fun y => absurd z y, fun _ _ => ⟨rfl, (re_fin hI0 k1 k3 (iv_Rok hV w1 w3 q1 q2 q3 (Or.inl rfl)) (iv_Rok hV w2 w4 q1 q2 q3 (Or.inl rfl)) hx hyy hM1 a1 a2 a3 hM2 b1 b2 b3).2.1 z1⟩, fun _ y => by omega⟩), fun z z1 => hYY _ (fun T2 L2 bo2 bs2 be2 m2 hM2 b1 b2 b3 => ⟨fun y => absurd z y, fun _ y => by omega, fun _ _ => ⟨rfl, (re_fin hI0 k1 k3 (iv_Rok hV w1 w3 q1 q2 q3 (Or.inl rfl)) (iv_Rok hV w2 w4 q1 q2 q3 (Or.inl rfl)) hx hyy hM1 a1 a2 a3 hM2 b1 b2 b3).2.2 z1⟩⟩)⟩
    have ha : (0 : Int32) ≤ nI kk := nI_pos' (by omega)
    unfold wpX_useHyp
    dsimp only
    refine br_t ha ?_
    by_cases h0 : v1 = 0
    · refine br_t h0 (hmain _ _ (Or.inl ⟨rfl, rfl, h0⟩) (fun Q hQ => ?_))
      unfold wpY_useHyp
      dsimp only
      exact br_t ha (br_t h0 hQ)
    · refine br_f h0 ?_
      by_cases h1 : v1 = 1
      · refine br_t h1 (hmain _ _ (Or.inr ⟨rfl, rfl, h1⟩) (fun Q hQ => ?_))
        unfold wpY_useHyp
        dsimp only
        exact br_t ha (br_f h0 (br_t h1 hQ))
      · unfold wpY_useHyp
        dsimp only
        exact br_f h1 (br_t ha (br_f h0 (br_f h1 ⟨rfl, I2⟩)))
theorem i_vc_useLemma {k : Nat} {u : SX} {v : SY} (I : i_Rel k u v) (hk : k + 5 ≤ 2560) (v1 : Int32) (v2 : Int32) : wpX_useLemma (fun r u' => wpY_useLemma (fun r' v' => r' = r ∧ i_Rel (k + 5) u' v') v v1 v2) u v1 v2 := by
  have I2 := I
  obtain ⟨n, q, ng, A, Z, hy, pr, val, e2, act, mX, mY, T, L, ay, gs, so, E, B, pv, vl, el, T', L', K, bo, bs, be, fa, fr, fe, hr, ft, hyA, vl', ee, wb, rfl, rfl, hI⟩ := I
  have hI0 := hI
  obtain ⟨hMX, hMY, hW, hL, hA, hsX, hsY, hP, hH, hHy, hvX, hvY⟩ := hI
  rcases re_act hI0 with ⟨rfl, rfl⟩ | ⟨kk, k1, k2, rfl, k3, k4, k5⟩
  · unfold wpX_useLemma wpY_useLemma
    dsimp only
    exact br_f (by decide) (br_f (by decide) ⟨rfl, I2⟩)
  ·
    have hS := hW.1
    have hRU := hW.2.2.2.2.2.1.1
    have hq8 := hW.2.1
    obtain ⟨⟨sv, w1, w2, w3, w4, w5, w6⟩, hyt, hyf⟩ := hW.2.2.2.2.2.2 (ng - 1) (by omega)
    obtain ⟨l1, l2, l3⟩ := hL.2.2.2 (ng - 1) (by omega)
    have hRm : ∀ i, i < 32 → mY (1 + i) = iv_R mX i := hL.2.2.1
    have hV := (tm_sg_GS hS).1
    have hmain : ∀ jj f p, jj < q → (f = 1 + 2 * jj ∧ p = 1 + 2 * jj + 1 ∧ v2 = 0) ∨ (f = 1 + 2 * jj + 1 ∧ p = 1 + 2 * jj ∧ v2 = 1) → (∀ Q, wY_useLemma_45 Q (nI jj) v2 (nI n) (nI q) (nI ng) (nI kk) T' L' K bo bs be fa fr fe hr ft hyA vl' ee wb → wpY_useLemma Q (nI n, nI q, nI ng, nI kk, T', L', K, bo, bs, be, fa, fr, fe, hr, ft, hyA, vl', ee, wb) (nI jj) v2) → wX_useLemma_44 (fun r u' => wpY_useLemma (fun r' v' => r' = r ∧ i_Rel (k + 5) u' v') (nI n, nI q, nI ng, nI kk, T', L', K, bo, bs, be, fa, fr, fe, hr, ft, hyA, vl', ee, wb) (nI jj) v2) (nI jj) v2 (nI n) (nI q) (nI kk) (nI ng) T L ay gs so E B pv vl el := by
      intro jj f p hjj hfp hwrap
      have hkk8 : jj < 8 := by omega
      have hfpY : (f + 32 = 33 + 2 * jj ∧ p + 32 = 33 + 2 * jj + 1 ∧ v2 = 0) ∨ (f + 32 = 33 + 2 * jj + 1 ∧ p + 32 = 33 + 2 * jj ∧ v2 = 1) := by
        rcases hfp with ⟨a, b, c⟩ | ⟨a, b, c⟩
        · exact Or.inl ⟨by omega, by omega, c⟩
        · exact Or.inr ⟨by omega, by omega, c⟩
      have lf : mY (f + 32) = mX f := by
        have := hL.2.1 (f - 1) (by omega)
        rwa [show 33 + (f - 1) = f + 32 by omega, show 1 + (f - 1) = f by omega] at this
      have lp : mY (p + 32) = mX p := by
        have := hL.2.1 (p - 1) (by omega)
        rwa [show 33 + (p - 1) = p + 32 by omega, show 1 + (p - 1) = p by omega] at this
      have hEf : ∃ sf, tm_P (tm_sg n A Z) [sf] (mX f) ∧ tm_P (tm_sg n A Z) [sf] (mX p) ∧ tm_FC (iv_R mX) (mX p) := by
        obtain ⟨sh, v1, v2, v3, v4, v5, v6⟩ := hW.2.2.2.2.1.1 jj hjj
        rcases hfp with ⟨rfl, rfl, _⟩ | ⟨rfl, rfl, _⟩
        · exact ⟨sh, v1, v2, v4⟩
        · exact ⟨sh, v2, v1, v3⟩
      obtain ⟨sf, q1, q2, q3⟩ := hEf
      refine xp_useLem (f := f) (p := p) k2 hW hsX hMX k3 hjj hfp (fun hF => ?_) (fun hns hsub hz T1 L1 E1 B1 m1 hM1 f1 => ?_) (fun hns hsub hz hno T1 L1 E1 B1 m1 hM1 f1 => ?_) (fun hns hsub hz x y T1 L1 E1 B1 m1 hx hyy hM1 a1 a2 a3 => ?_)
      · refine hwrap _ (yp_useLem (R := iv_R mX) (s1 := sv) (s2 := sv) (sf := sf) (f := f + 32) (p := p + 32) hS hsY hRU hH hMY hRm k2 k3 k4 (by rw [l1]; exact ⟨w1, w3⟩) (by rw [l2]; exact ⟨w2, w4⟩) (by rw [l1]; exact w5) (by rw [l2]; exact w6) hkk8 (by rw [lf]; exact q1) (by rw [lp]; exact q2) (by rw [lp]; exact q3) hfpY ?_ ?_ ?_ ?_) <;> (first | rw [l1, l2, lf, lp] | rw [lf, lp])
        · exact fun _ => ⟨rfl, I2⟩
        · intro z1 z2
          rcases hF with z | z
          · exact absurd z z1
          · exact absurd z2 z
        · intro z1 z2
          rcases hF with z | z
          · exact absurd z z1
          · exact absurd z2 z
        · intro z1 z2
          rcases hF with z | z
          · exact absurd z z1
          · exact absurd z2 z
      · refine hwrap _ (yp_useLem (R := iv_R mX) (s1 := sv) (s2 := sv) (sf := sf) (f := f + 32) (p := p + 32) hS hsY hRU hH hMY hRm k2 k3 k4 (by rw [l1]; exact ⟨w1, w3⟩) (by rw [l2]; exact ⟨w2, w4⟩) (by rw [l1]; exact w5) (by rw [l2]; exact w6) hkk8 (by rw [lf]; exact q1) (by rw [lp]; exact q2) (by rw [lp]; exact q3) hfpY ?_ ?_ ?_ ?_) <;> (first | rw [l1, l2, lf, lp] | rw [lf, lp])
        · intro z
          rcases z with z | z
          · exact absurd z hns
          · exact absurd hsub z
        · exact fun _ _ _ T2 L2 bo2 bs2 be2 m2 hM2 f2 => ⟨rfl, re_mk (re_keep hI0 hM1 f1 hM2 f2)⟩
        · exact fun _ _ z => absurd hz z
        · exact fun _ _ z => absurd hz z
      · refine hwrap _ (yp_useLem (R := iv_R mX) (s1 := sv) (s2 := sv) (sf := sf) (f := f + 32) (p := p + 32) hS hsY hRU hH hMY hRm k2 k3 k4 (by rw [l1]; exact ⟨w1, w3⟩) (by rw [l2]; exact ⟨w2, w4⟩) (by rw [l1]; exact w5) (by rw [l2]; exact w6) hkk8 (by rw [lf]; exact q1) (by rw [lp]; exact q2) (by rw [lp]; exact q3) hfpY ?_ ?_ ?_ ?_) <;> (first | rw [l1, l2, lf, lp] | rw [lf, lp])
        · intro z
          rcases z with z | z
          · exact absurd z hns
          · exact absurd hsub z
        · exact fun _ _ z => absurd z hz
        · exact fun _ _ _ _ T2 L2 bo2 bs2 be2 m2 hM2 f2 => ⟨rfl, re_mk (re_keep hI0 hM1 f1 hM2 f2)⟩
        · intro _ _ _ x y T2 L2 bo2 bs2 be2 m2 hx hyy
          rcases hno with z | z; (rw [hx] at z; cases z); (rw [hyy] at z; cases z)
      · have hYY : ∀ (Q : Int32 → SY → Prop), (∀ T2 L2 bo2 bs2 be2 m2, cm_M 64 89 T2 L2 m2 → m2 (49 + 4 * (ng - 1)) = x → m2 (49 + 4 * (ng - 1) + 1) = y → (∀ s, s < 81 → s ≠ 49 + 4 * (ng - 1) → s ≠ 49 + 4 * (ng - 1) + 1 → m2 s = mY s) → (x ≠ y → Q (nI ng) (nI n, nI q, nI ng, nI kk, T2, L2, K, bo2, bs2, be2, fa, fr, fe, hr, ft, hyA, vl', ee, wb)) ∧ (x = y → ng = 1 → Q 0 (nI n, nI q, 0, -1, T2, L2, K, bo2, bs2, be2, fa, fr, fe, hr, upd ft kk 3, hyA, vl', ee, wb)) ∧ (x = y → 1 < ng → Q (nI (ng - 1)) (nI n, nI q, nI (ng - 1), nI kk, T2, L2, K, bo2, bs2, be2, fa, fr, fe, hr, ft, hyA, vl', ee, wb))) → wpY_useLemma Q (nI n, nI q, nI ng, nI kk, T', L', K, bo, bs, be, fa, fr, fe, hr, ft, hyA, vl', ee, wb) (nI jj) v2 := by
          intro Q hQ
          refine hwrap _ (yp_useLem (R := iv_R mX) (s1 := sv) (s2 := sv) (sf := sf) (f := f + 32) (p := p + 32) hS hsY hRU hH hMY hRm k2 k3 k4 (by rw [l1]; exact ⟨w1, w3⟩) (by rw [l2]; exact ⟨w2, w4⟩) (by rw [l1]; exact w5) (by rw [l2]; exact w6) hkk8 (by rw [lf]; exact q1) (by rw [lp]; exact q2) (by rw [lp]; exact q3) hfpY ?_ ?_ ?_ ?_) <;> (first | rw [l1, l2, lf, lp] | rw [lf, lp])
          · intro z
            rcases z with z | z
            · exact absurd z hns
            · exact absurd hsub z
          · exact fun _ _ z => absurd z hz
          · intro _ _ _ z
            rcases z with z | z; (rw [hx] at z; cases z); (rw [hyy] at z; cases z)
          · intro _ _ _
            intro x' y' T2 L2 bo2 bs2 be2 m2 hx' hy' hM2 b1 b2 b3
            rw [hx] at hx'
            rw [hyy] at hy'
            obtain rfl := Option.some.inj hx'
            obtain rfl := Option.some.inj hy'
            exact hQ T2 L2 bo2 bs2 be2 m2 hM2 b1 b2 b3
        refine ⟨fun z => hYY _ (fun T2 L2 bo2 bs2 be2 m2 hM2 b1 b2 b3 => ⟨fun _ => ⟨rfl, (re_fin hI0 k1 k3 (iv_Rok hV w1 w3 q1 q2 q3 (Or.inr hns)) (iv_Rok hV w2 w4 q1 q2 q3 (Or.inr hns)) hx hyy hM1 a1 a2 a3 hM2 b1 b2 b3).1⟩, fun y => absurd y z, fun y => absurd y z⟩), fun z z1 => hYY _ (fun T2 L2 bo2 bs2 be2 m2 hM2 b1 b2 b3 => ⟨fun y => absurd z y, fun _ _ => ⟨rfl, (re_fin hI0 k1 k3 (iv_Rok hV w1 w3 q1 q2 q3 (Or.inr hns)) (iv_Rok hV w2 w4 q1 q2 q3 (Or.inr hns)) hx hyy hM1 a1 a2 a3 hM2 b1 b2 b3).2.1 z1⟩, fun _ y => by omega⟩), fun z z1 => hYY _ (fun T2 L2 bo2 bs2 be2 m2 hM2 b1 b2 b3 => ⟨fun y => absurd z y, fun _ y => by omega, fun _ _ => ⟨rfl, (re_fin hI0 k1 k3 (iv_Rok hV w1 w3 q1 q2 q3 (Or.inr hns)) (iv_Rok hV w2 w4 q1 q2 q3 (Or.inr hns)) hx hyy hM1 a1 a2 a3 hM2 b1 b2 b3).2.2 z1⟩⟩)⟩
    have ha : (0 : Int32) ≤ nI kk := nI_pos' (by omega)
    unfold wpX_useLemma
    dsimp only
    refine br_t ha ?_
    by_cases hneg : v1 < 0
    · unfold wpY_useLemma
      dsimp only
      exact br_t hneg (br_t ha (br_t hneg ⟨rfl, I2⟩))
    · obtain ⟨j, hj, rfl⟩ := nI_of hneg
      refine br_f hneg ?_
      by_cases h8 : j < 8
      · have a8 : ¬ (8 : Int32) ≤ nI j := nI_ge (b := 8) h8 (by decide)
        have a7 : ¬ (7 : Int32) < nI j := nI_nlt (a := 7) (by omega) (by decide)
        obtain ⟨p1, p2, p3⟩ := hP j h8
        have hin : vp_in (nI j) 8 := vp_in_nI h8 (by omega)
        rw [nI_clamp (n := j) (by omega), p1]
        refine br_f a8 ⟨hin, ?_⟩
        cases hpj : pr j with
        | false =>
          have hft : ¬ ft j = 3 := by
            rw [p3, hpj, if_neg (by decide)]
            split
            · split <;> decide
            · decide
          refine br_t rfl ?_
          unfold wpY_useLemma
          dsimp only
          rw [nI_clamp (n := j) (by omega)]
          exact br_t ha (br_f hneg (br_f a7 ⟨hin, br_f hft ⟨rfl, I2⟩⟩))
        | true =>
          have hft : ft j = 3 := by
            rw [p3, hpj]
            rfl
          have hjq : j < q := by
            apply Nat.lt_of_not_le
            intro z
            rw [p2 z] at hpj
            cases hpj
          refine br_f (by decide) ?_
          by_cases h0 : v2 = 0
          · refine br_t h0 (hmain j _ _ hjq (Or.inl ⟨rfl, rfl, h0⟩) (fun Q hQ => ?_))
            unfold wpY_useLemma
            dsimp only
            rw [nI_clamp (n := j) (by omega)]
            exact br_t ha (br_f hneg (br_f a7 ⟨hin, br_t hft (br_t h0 hQ)⟩))
          · refine br_f h0 ?_
            by_cases h1 : v2 = 1
            · refine br_t h1 (hmain j _ _ hjq (Or.inr ⟨rfl, rfl, h1⟩) (fun Q hQ => ?_))
              unfold wpY_useLemma
              dsimp only
              rw [nI_clamp (n := j) (by omega)]
              exact br_t ha (br_f hneg (br_f a7 ⟨hin, br_t hft (br_f h0 (br_t h1 hQ))⟩))
            · unfold wpY_useLemma
              dsimp only
              rw [nI_clamp (n := j) (by omega)]
              exact br_f h1 (br_t ha (br_f hneg (br_f a7 ⟨hin, br_t hft (br_f h0 (br_f h1 ⟨rfl, I2⟩))⟩)))
      · have a8 : (8 : Int32) ≤ nI j := nI_le (a := 8) (by omega) hj
        have a7 : (7 : Int32) < nI j := nI_lt (a := 7) (by omega) hj
        unfold wpY_useLemma
        dsimp only
        exact br_t a8 (br_t ha (br_f hneg (br_t a7 ⟨rfl, I2⟩)))
end
section
/-! 37: generalize, induct, evaluate -/
theorem i_vc_generalize {k : Nat} {u : SX} {v : SY} (I : i_Rel k u v) (hk : k + 5 ≤ 2560) : wpX_generalize (fun r u' => wpY_generalize (fun r' v' => r' = r ∧ i_Rel (k + 5) u' v') v) u := by
  obtain ⟨n, q, ng, A, Z, hy, pr, val, e2, act, mX, mY, T, L, ay, gs, so, E, B, pv, vl, el, T', L', K, bo, bs, be, fa, fr, fe, hr, ft, hyA, vl', ee, wb, rfl, rfl, hI⟩ := I
  have hI0 := hI
  obtain ⟨hMX, hMY, hW, hL, hA, hsX, hsY, hP, hH, hHy, hvX, hvY⟩ := hI
  rcases re_act hI0 with ⟨rfl, rfl⟩ | ⟨kk, k1, k2, rfl, k3, k4, k5⟩
  · have hnn : ¬ ((-1 : Int32) ≠ -1) := fun z => z rfl
    refine xp_gen hW hsX hMX (Or.inl rfl) (fun _ T1 L1 E1 B1 m1 hM1 x0 f1 => ?_) (fun z => absurd z hnn) (fun _ z => absurd z hnn) (fun _ z => absurd z hnn) (fun _ z => absurd z hnn) (fun _ _ z => absurd z hnn)
    refine yp_gen (s1 := 0) (s2 := 0) (hyv := false) hW.1 hsY hMY (by rw [hL.1]; exact hW.2.2.2.1) (by omega) (Or.inl rfl) (fun z => by omega) (fun z => by omega) (fun z => by omega) (fun z => by omega) (fun z => by omega) (fun _ T2 L2 K2 bo2 bs2 be2 m2 hM2 y0 f2 => ⟨rfl, re_mk (re_keep0 hI0 hM1 f1 hM2 f2 (by rw [x0, y0]) (by rw [x0]; exact Nat.zero_le _))⟩) (fun z => absurd z hnn) (fun _ z => absurd z hnn) (fun _ z => absurd z hnn) (fun _ z => absurd z hnn) (fun _ _ z => absurd z hnn)
  ·
    have hS := hW.1
    have hRU := hW.2.2.2.2.2.1.1
    have hq8 := hW.2.1
    have h48 := hW.2.2.2.1
    have e0 : mY 0 = mX 0 := hL.1
    obtain ⟨⟨sg, w1, w2, w3, w4, w5, w6⟩, hyt, hyf⟩ := hW.2.2.2.2.2.2 (ng - 1) (by omega)
    obtain ⟨l1, l2, l3⟩ := hL.2.2.2 (ng - 1) (by omega)
    have hRm : ∀ i, i < 32 → mY (1 + i) = iv_R mX i := hL.2.2.1
    have hV := (tm_sg_GS hS).1
    have hfrp : ∀ v, yf_p mY (hy (ng - 1)) (49 + 4 * (ng - 1)) v ↔ fr_p mX (49 + 4 * (ng - 1)) v := by
      intro v
      unfold yf_p fr_p
      rw [l1, l2]
      cases hyv : hy (ng - 1) with
      | true =>
        rw [(l3 hyv).1, (l3 hyv).2]
        constructor
        · rintro (a | a | ⟨_, a | a⟩)
          · exact Or.inl a
          · exact Or.inr (Or.inl a)
          · exact Or.inr (Or.inr (Or.inl a))
          · exact Or.inr (Or.inr (Or.inr a))
        · rintro (a | a | a | a)
          · exact Or.inl a
          · exact Or.inr (Or.inl a)
          · exact Or.inr (Or.inr ⟨rfl, Or.inl a⟩)
          · exact Or.inr (Or.inr ⟨rfl, Or.inr a⟩)
      | false =>
        rw [(hyf hyv).1, (hyf hyv).2]
        constructor
        · rintro (a | a | ⟨z, _⟩)
          · exact Or.inl a
          · exact Or.inr (Or.inl a)
          · cases z
        · rintro (a | a | a | a)
          · exact Or.inl a
          · exact Or.inr (Or.inl a)
          · cases a
          · cases a
    have hfrl : ∀ lo v, fr_l (yf_p mY (hy (ng - 1)) (49 + 4 * (ng - 1))) lo v → fr_l (fr_p mX (49 + 4 * (ng - 1))) lo v := fun lo v h => ⟨h.1, h.2.1, fun y => h.2.2.1 ((hfrp v).mpr y), fun u a b => (hfrp u).mp (h.2.2.2 u a b)⟩
    have hne : nI kk ≠ (-1 : Int32) := xi_neg (by omega)
    have hYG : ∀ (Q : Int32 → SY → Prop), (tm_ts (tm_sg n A Z) (mX 0) = none → ∀ T2 L2 K2 bo2 bs2 be2 m2, cm_M 64 89 T2 L2 m2 → m2 0 = [] → (∀ s, 1 ≤ s → s < 81 → m2 s = mY s) → Q (-1) (nI n, nI q, nI ng, nI kk, T2, L2, K2, bo2, bs2, be2, fa, fr, fe, hr, ft, hyA, vl', ee, wb)) → (∀ sv, tm_ts (tm_sg n A Z) (mX 0) = some sv → (mX 0).length = 1 ∧ tm_vn (tm_at (mX 0) 0) ≠ none → ∀ T2 L2 K2 bo2 bs2 be2 m2, cm_M 64 89 T2 L2 m2 → m2 0 = [] → (∀ s, 1 ≤ s → s < 81 → m2 s = mY s) → Q (-2) (nI n, nI q, nI ng, nI kk, T2, L2, K2, bo2, bs2, be2, fa, fr, fe, hr, ft, hyA, vl', ee, wb)) → (∀ sv, tm_ts (tm_sg n A Z) (mX 0) = some sv → ¬ ((mX 0).length = 1 ∧ tm_vn (tm_at (mX 0) 0) ≠ none) → (tm_R (tm_sg n A Z) false (mX (49 + 4 * (ng - 1))) (mX 0) (mX 0) 0).1 + (tm_R (tm_sg n A Z) false (mX (49 + 4 * (ng - 1) + 1)) (mX 0) (mX 0) 0).1 = 0 → ∀ T2 L2 K2 bo2 bs2 be2 m2, cm_M 64 89 T2 L2 m2 → m2 0 = [] → (∀ s, 1 ≤ s → s < 81 → m2 s = mY s) → Q (-8) (nI n, nI q, nI ng, nI kk, T2, L2, K2, bo2, bs2, be2, fa, fr, fe, hr, ft, hyA, vl', ee, wb)) → (∀ sv, tm_ts (tm_sg n A Z) (mX 0) = some sv → ¬ ((mX 0).length = 1 ∧ tm_vn (tm_at (mX 0) 0) ≠ none) → (tm_R (tm_sg n A Z) false (mX (49 + 4 * (ng - 1))) (mX 0) (mX 0) 0).1 + (tm_R (tm_sg n A Z) false (mX (49 + 4 * (ng - 1) + 1)) (mX 0) (mX 0) 0).1 ≠ 0 → (∀ v, 8 * sv ≤ v → v < 8 * sv + 8 → fr_p mX (49 + 4 * (ng - 1)) v) → ∀ T2 L2 K2 bo2 bs2 be2 m2, cm_M 64 89 T2 L2 m2 → m2 0 = [] → (∀ s, 1 ≤ s → s < 81 → m2 s = mY s) → Q (-4) (nI n, nI q, nI ng, nI kk, T2, L2, K2, bo2, bs2, be2, fa, fr, fe, hr, ft, hyA, vl', ee, wb)) →
        (∀ sv v, tm_ts (tm_sg n A Z) (mX 0) = some sv → ¬ ((mX 0).length = 1 ∧ tm_vn (tm_at (mX 0) 0) ≠ none) → (tm_R (tm_sg n A Z) false (mX (49 + 4 * (ng - 1))) (mX 0) (mX 0) 0).1 + (tm_R (tm_sg n A Z) false (mX (49 + 4 * (ng - 1) + 1)) (mX 0) (mX 0) 0).1 ≠ 0 → fr_l (fr_p mX (49 + 4 * (ng - 1))) (8 * sv) v → ∀ T2 L2 K2 bo2 bs2 be2 m2, cm_M 64 89 T2 L2 m2 → m2 0 = [] → m2 (49 + 4 * (ng - 1)) = (tm_R (tm_sg n A Z) false (mX (49 + 4 * (ng - 1))) (mX 0) [tm_vc v] 0).2 → m2 (49 + 4 * (ng - 1) + 1) = (tm_R (tm_sg n A Z) false (mX (49 + 4 * (ng - 1) + 1)) (mX 0) [tm_vc v] 0).2 → (∀ s, 1 ≤ s → s < 81 → s ≠ 49 + 4 * (ng - 1) → s ≠ 49 + 4 * (ng - 1) + 1 → m2 s = mY s) → Q (nI ng) (nI n, nI q, nI ng, nI kk, T2, L2, K2, bo2, bs2, be2, fa, fr, fe, hr, ft, hyA, vl', ee, wb)) → wpY_generalize Q (nI n, nI q, nI ng, nI kk, T', L', K, bo, bs, be, fa, fr, fe, hr, ft, hyA, vl', ee, wb) := by
      intro Q c1 c2 c3 c4 c5
      refine yp_gen (s1 := sg) (s2 := sg) (hyv := hy (ng - 1)) hS hsY hMY (by rw [e0]; exact h48) k4 (Or.inr ⟨kk, k2, rfl, k3⟩) (fun _ => by rw [l1]; exact w1) (fun _ => by rw [l2]; exact w2) (fun _ => by rw [l1]; exact w5) (fun _ => by rw [l2]; exact w6) (fun _ => hHy (ng - 1) (by omega)) (fun z => absurd z hne) ?_ ?_ ?_ ?_ ?_
      · rw [e0]
        exact fun _ => c1
      · rw [e0]
        exact fun sv _ => c2 sv
      · rw [e0, l1, l2]
        exact fun sv _ => c3 sv
      · rw [e0, l1, l2]
        exact fun sv _ a b c d => c4 sv a b c (fun v x y => (hfrp v).mp (d v x y))
      · rw [e0, l1, l2]
        exact fun sv v _ a b c d => c5 sv v a b c (hfrl _ v d)
    refine xp_gen hW hsX hMX (Or.inr ⟨kk, k2, rfl, k3⟩) (fun z => absurd z hne) (fun _ hts T1 L1 E1 B1 m1 hM1 x0 f1 => ?_) (fun sv _ hts hsi T1 L1 E1 B1 m1 hM1 x0 f1 => ?_) (fun sv _ hts hns hz T1 L1 E1 B1 m1 hM1 x0 f1 => ?_) (fun sv _ hts hns hz hfr T1 L1 E1 B1 m1 hM1 x0 f1 => ?_) (fun sv v _ hts hns hz hfr T1 L1 E1 B1 m1 hM1 x0 x1 x2 f1 => ?_)
    · have hkeep : ∀ T2 L2 m2, cm_M 64 89 T2 L2 m2 → m2 0 = [] → (∀ s, 1 ≤ s → s < 81 → m2 s = mY s) → _ := fun T2 L2 m2 hM2 y0 f2 => re_keep0 hI0 hM1 f1 hM2 f2 (by rw [x0, y0]) (by rw [x0]; exact Nat.zero_le _)
      exact hYG _ (fun _ T2 L2 K2 bo2 bs2 be2 m2 hM2 y0 f2 => ⟨rfl, re_mk (hkeep T2 L2 m2 hM2 y0 f2)⟩) (fun sv z => by rw [hts] at z; cases z) (fun sv z => by rw [hts] at z; cases z) (fun sv z => by rw [hts] at z; cases z) (fun sv v z => by rw [hts] at z; cases z)
    · have hkeep : ∀ T2 L2 m2, cm_M 64 89 T2 L2 m2 → m2 0 = [] → (∀ s, 1 ≤ s → s < 81 → m2 s = mY s) → _ := fun T2 L2 m2 hM2 y0 f2 => re_keep0 hI0 hM1 f1 hM2 f2 (by rw [x0, y0]) (by rw [x0]; exact Nat.zero_le _)
      exact hYG _ (fun z => by rw [hts] at z; cases z) (fun _ _ _ T2 L2 K2 bo2 bs2 be2 m2 hM2 y0 f2 => ⟨rfl, re_mk (hkeep T2 L2 m2 hM2 y0 f2)⟩) (fun _ _ z => absurd hsi z) (fun _ _ z => absurd hsi z) (fun _ _ _ z => absurd hsi z)
    · have hkeep : ∀ T2 L2 m2, cm_M 64 89 T2 L2 m2 → m2 0 = [] → (∀ s, 1 ≤ s → s < 81 → m2 s = mY s) → _ := fun T2 L2 m2 hM2 y0 f2 => re_keep0 hI0 hM1 f1 hM2 f2 (by rw [x0, y0]) (by rw [x0]; exact Nat.zero_le _)
      exact hYG _ (fun z => by rw [hts] at z; cases z) (fun _ _ z => absurd z hns) (fun _ _ _ _ T2 L2 K2 bo2 bs2 be2 m2 hM2 y0 f2 => ⟨rfl, re_mk (hkeep T2 L2 m2 hM2 y0 f2)⟩) (fun _ _ _ z => absurd hz z) (fun _ _ _ _ z => absurd hz z)
    · have hkeep : ∀ T2 L2 m2, cm_M 64 89 T2 L2 m2 → m2 0 = [] → (∀ s, 1 ≤ s → s < 81 → m2 s = mY s) → _ := fun T2 L2 m2 hM2 y0 f2 => re_keep0 hI0 hM1 f1 hM2 f2 (by rw [x0, y0]) (by rw [x0]; exact Nat.zero_le _)
      refine hYG _ (fun z => by rw [hts] at z; cases z) (fun _ _ z => absurd z hns) (fun _ _ _ z => absurd z hz) (fun _ _ _ _ _ T2 L2 K2 bo2 bs2 be2 m2 hM2 y0 f2 => ⟨rfl, re_mk (hkeep T2 L2 m2 hM2 y0 f2)⟩) (fun sv' v z _ _ hv => ?_)
      rw [hts] at z
      obtain rfl := Option.some.inj z
      exact absurd (hfr v hv.1 hv.2.1) hv.2.2.1
    · refine hYG _ (fun z => by rw [hts] at z; cases z) (fun _ _ z => absurd z hns) (fun _ _ _ z => absurd z hz) (fun sv' z _ _ hv => ?_) (fun sv' v' z _ _ hv T2 L2 K2 bo2 bs2 be2 m2 hM2 y0 y1 y2 f2 => ?_)
      · rw [hts] at z
        obtain rfl := Option.some.inj z
        exact absurd (hv v hfr.1 hfr.2.1) hfr.2.2.1
      · rw [hts] at z
        obtain rfl := Option.some.inj z
        obtain rfl := fr_u hfr hv
        refine ⟨rfl, re_mk (re_goal hI0 k3 hM1 f1 hM2 f2 (by rw [x0, y0]) (by rw [x0]; exact Nat.zero_le _) (by rw [x1, y1]) (by rw [x2, y2]) ?_)⟩
        rw [x1, x2]
        have p1 := tm_ts_P.mp hts
        have hsv := yi_sv hS p1
        have hv1 := hfr.1
        have hv2 := hfr.2.1
        have hPv := yi_Pv (n := n) (A := A) (Z := Z) (v := v) (by omega)
        rw [show (if v < 8 then 0 else 1) = sv by split <;> omega] at hPv
        have hFv : tm_FC (iv_R mX) [tm_vc v] := by
          intro c hc hf
          rw [List.mem_singleton.mp hc] at hf
          unfold tm_vc at hf
          split at hf <;> omega
        have r1 := iv_Rok (pat := false) (fr := mX 0) (to := [tm_vc v]) hV w1 w3 p1 hPv hFv (Or.inl rfl)
        have r2 := iv_Rok (pat := false) (fr := mX 0) (to := [tm_vc v]) hV w2 w4 p1 hPv hFv (Or.inl rfl)
        have m1 := tm_R_len1 (g := tm_sg n A Z) (w := mX (49 + 4 * (ng - 1))) (fr := mX 0) (to := [tm_vc v]) rfl _ 0 (Nat.le_refl _)
        have m2 := tm_R_len1 (g := tm_sg n A Z) (w := mX (49 + 4 * (ng - 1) + 1)) (fr := mX 0) (to := [tm_vc v]) rfl _ 0 (Nat.le_refl _)
        exact ⟨sg, r1.1, r2.1, r1.2, r2.2, by omega, by omega⟩
theorem i_vc_evaluate {k : Nat} {u : SX} {v : SY} (I : i_Rel k u v) (hk : k + 5 ≤ 2560) (v1 : Int32) : wpX_evaluate (fun r u' => wpY_evaluate (fun r' v' => r' = r ∧ i_Rel (k + 5) u' v') v v1) u v1 := by
  have I2 := I
  obtain ⟨n, q, ng, A, Z, hy, pr, val, e2, act, mX, mY, T, L, ay, gs, so, E, B, pv, vl, el, T', L', K, bo, bs, be, fa, fr, fe, hr, ft, hyA, vl', ee, wb, rfl, rfl, hI⟩ := I
  have hI0 := hI
  obtain ⟨hMX, hMY, hW, hL, hA, hsX, hsY, hP, hH, hHy, hvX, hvY⟩ := hI
  have hq8 := hW.2.1
  by_cases h0 : v1 < 0
  · unfold wpX_evaluate wpY_evaluate
    dsimp only
    exact br_t h0 (br_t h0 ⟨rfl, I2⟩)
  · obtain ⟨j, hj, rfl⟩ := nI_of h0
    by_cases hjq : j < q
    · have hS := hW.1
      have hRU := hW.2.2.2.2.2.1.1
      have hRm : ∀ i, i < 32 → mY (1 + i) = iv_R mX i := hL.2.2.1
      obtain ⟨sg, w1, w2, w3, w4, w5, w6⟩ := hW.2.2.2.2.1.1 j hjq
      have l1 : mY (33 + 2 * j) = mX (1 + 2 * j) := hL.2.1 (2 * j) (by omega)
      have l2 : mY (33 + 2 * j + 1) = mX (1 + 2 * j + 1) := hL.2.1 (2 * j + 1) (by omega)
      refine xp_eval hvX hW hsX hMX hjq (fun hno T1 L1 E1 B1 m1 hM1 f1 => ?_) (fun x y hx hyy T1 L1 E1 B1 m1 hM1 f1 => ⟨fun e => ?_, fun e => ?_⟩)
      · refine yp_eval (R := iv_R mX) (sv := sg) hS hsY hRU hH hMY hvY hRm hjq hq8 (by rw [l1]; exact w1) (by rw [l2]; exact w2) (by rw [l1]; exact w3) (by rw [l2]; exact w4) (by rw [l1]; exact w5) (by rw [l2]; exact w6) ?_ ?_ <;> rw [l1, l2]
        · exact fun _ T2 L2 bo2 bs2 be2 m2 hM2 f2 => ⟨rfl, re_mk (re_keep hI0 hM1 f1 hM2 f2)⟩
        · intro x y hx hyy
          rcases hno with z | z; (rw [hx] at z; cases z); (rw [hyy] at z; cases z)
      · refine yp_eval (R := iv_R mX) (sv := sg) hS hsY hRU hH hMY hvY hRm hjq hq8 (by rw [l1]; exact w1) (by rw [l2]; exact w2) (by rw [l1]; exact w3) (by rw [l2]; exact w4) (by rw [l1]; exact w5) (by rw [l2]; exact w6) ?_ ?_ <;> rw [l1, l2]
        · intro z
          rcases z with z | z; (rw [hx] at z; cases z); (rw [hyy] at z; cases z)
        · intro x' y' hx' hy' T2 L2 bo2 bs2 be2 m2 hM2 f2
          rw [hx] at hx'
          rw [hyy] at hy'
          obtain rfl := Option.some.inj hx'
          obtain rfl := Option.some.inj hy'
          exact ⟨fun _ => ⟨rfl, re_mk (re_keep hI0 hM1 f1 hM2 f2)⟩, fun z => absurd e z⟩
      · refine yp_eval (R := iv_R mX) (sv := sg) hS hsY hRU hH hMY hvY hRm hjq hq8 (by rw [l1]; exact w1) (by rw [l2]; exact w2) (by rw [l1]; exact w3) (by rw [l2]; exact w4) (by rw [l1]; exact w5) (by rw [l2]; exact w6) ?_ ?_ <;> rw [l1, l2]
        · intro z
          rcases z with z | z; (rw [hx] at z; cases z); (rw [hyy] at z; cases z)
        · intro x' y' hx' hy' T2 L2 bo2 bs2 be2 m2 hM2 f2
          rw [hx] at hx'
          rw [hyy] at hy'
          obtain rfl := Option.some.inj hx'
          obtain rfl := Option.some.inj hy'
          exact ⟨fun z => absurd z e, fun _ => ⟨rfl, re_mk (re_keep hI0 hM1 f1 hM2 f2)⟩⟩
    · have h1 : ¬ nI j < nI q := nI_nlt (by omega) hj
      unfold wpX_evaluate wpY_evaluate
      dsimp only
      exact br_f h0 (br_f h1 (br_f h0 (br_f h1 ⟨rfl, I2⟩)))
end
section
/-! 38: induct -/
theorem ri_to {n : Nat} {A : Nat → List Nat} {Z : Nat → Nat} {v hh : Nat} (hv : v < 16) (hhh : 8 ≤ v → hh < 8) : tm_P (tm_sg n A Z) [if v < 8 then 0 else 1] (tm_to v hh) := by
  unfold tm_to
  by_cases h : v < 8
  · rw [if_pos h, if_pos h]
    have := yi_Pv (n := n) (A := A) (Z := Z) hv
    rw [if_pos h] at this
    exact ⟨[0], 0, [], rfl, rfl, this⟩
  · rw [if_neg h, if_neg h]
    have h1 := yi_Pv (n := n) (A := A) (Z := Z) hv
    have h8 := hhh (by omega)
    have h2 := yi_Pv (n := n) (A := A) (Z := Z) (v := hh) (by omega)
    rw [if_neg h] at h1
    rw [if_pos h8] at h2
    exact ⟨[0, 1], 1, [], rfl, rfl, tm_P_app h1 _ [0] h2⟩
theorem ri_ba {n : Nat} {A : Nat → List Nat} {Z : Nat → Nat} {v : Nat} : tm_P (tm_sg n A Z) [if v < 8 then 0 else 1] (tm_ba v) := by
  unfold tm_ba
  by_cases h : v < 8
  · rw [if_pos h, if_pos h]
    exact ⟨[], 0, [], rfl, rfl, rfl⟩
  · rw [if_neg h, if_neg h]
    exact ⟨[], 1, [], rfl, rfl, rfl⟩
theorem ri_vcf {v : Nat} : ¬ tm_fn (tm_vc v) := by
  unfold tm_vc
  split <;> omega
theorem ri_toF {R : Nat → List Nat} {v hh : Nat} : tm_FC R (tm_to v hh) := by
  intro c hc hf
  exfalso
  unfold tm_to at hc
  split at hc
  · rcases List.mem_cons.mp hc with e | hc
    · omega
    · rw [List.mem_singleton.mp hc] at hf
      exact ri_vcf hf
  · rcases List.mem_cons.mp hc with e | hc
    · omega
    · rcases List.mem_cons.mp hc with e | hc
      · rw [e] at hf
        exact ri_vcf hf
      · rw [List.mem_singleton.mp hc] at hf
        exact ri_vcf hf
theorem ri_baF {R : Nat → List Nat} {v : Nat} : tm_FC R (tm_ba v) := by
  intro c hc hf
  exfalso
  unfold tm_ba at hc
  split at hc
  · have := List.mem_singleton.mp hc
    omega
  · have := List.mem_singleton.mp hc
    omega
theorem ri_baL (v : Nat) : (tm_ba v).length = 1 := by
  unfold tm_ba
  split <;> rfl
theorem i_vc_induct {k : Nat} {u : SX} {v : SY} (I : i_Rel k u v) (hk : k + 5 ≤ 2560) (v1 : Int32) : wpX_induct (fun r u' => wpY_induct (fun r' v' => r' = r ∧ i_Rel (k + 5) u' v') v v1) u v1 := by
  have I2 := I
  obtain ⟨n, q, ng, A, Z, hy, pr, val, e2, act, mX, mY, T, L, ay, gs, so, E, B, pv, vl, el, T', L', K, bo, bs, be, fa, fr, fe, hr, ft, hyA, vl', ee, wb, rfl, rfl, hI⟩ := I
  have hI0 := hI
  obtain ⟨hMX, hMY, hW, hL, hA, hsX, hsY, hP, hH, hHy, hvX, hvY⟩ := hI
  rcases re_act hI0 with ⟨rfl, rfl⟩ | ⟨kk, k1, k2, rfl, k3, k4, k5⟩
  · unfold wpX_induct wpY_induct
    dsimp only
    exact br_f (by decide) (br_f (by decide) ⟨rfl, I2⟩)
  ·
    have hS := hW.1
    have hRU := hW.2.2.2.2.2.1.1
    have hq8 := hW.2.1
    have h48 := hW.2.2.2.1
    have e0 : mY 0 = mX 0 := hL.1
    obtain ⟨⟨sg, w1, w2, w3, w4, w5, w6⟩, hyt, hyf⟩ := hW.2.2.2.2.2.2 (ng - 1) (by omega)
    obtain ⟨l1, l2, l3⟩ := hL.2.2.2 (ng - 1) (by omega)
    have hRm : ∀ i, i < 32 → mY (1 + i) = iv_R mX i := hL.2.2.1
    have hV := (tm_sg_GS hS).1
    have hfrp : ∀ v, yf_p mY (hy (ng - 1)) (49 + 4 * (ng - 1)) v ↔ fr_p mX (49 + 4 * (ng - 1)) v := by
      intro v
      unfold yf_p fr_p
      rw [l1, l2]
      cases hyv : hy (ng - 1) with
      | true =>
        rw [(l3 hyv).1, (l3 hyv).2]
        constructor
        · rintro (a | a | ⟨_, a | a⟩)
          · exact Or.inl a
          · exact Or.inr (Or.inl a)
          · exact Or.inr (Or.inr (Or.inl a))
          · exact Or.inr (Or.inr (Or.inr a))
        · rintro (a | a | a | a)
          · exact Or.inl a
          · exact Or.inr (Or.inl a)
          · exact Or.inr (Or.inr ⟨rfl, Or.inl a⟩)
          · exact Or.inr (Or.inr ⟨rfl, Or.inr a⟩)
      | false =>
        rw [(hyf hyv).1, (hyf hyv).2]
        constructor
        · rintro (a | a | ⟨z, _⟩)
          · exact Or.inl a
          · exact Or.inr (Or.inl a)
          · cases z
        · rintro (a | a | a | a)
          · exact Or.inl a
          · exact Or.inr (Or.inl a)
          · cases a
          · cases a
    have hfrl : ∀ lo v, fr_l (yf_p mY (hy (ng - 1)) (49 + 4 * (ng - 1))) lo v → fr_l (fr_p mX (49 + 4 * (ng - 1))) lo v := fun lo v h => ⟨h.1, h.2.1, fun y => h.2.2.1 ((hfrp v).mpr y), fun u a b => (hfrp u).mp (h.2.2.2 u a b)⟩
    have ha : (0 : Int32) ≤ nI kk := nI_pos' (by omega)
    by_cases hneg : v1 < 0
    · unfold wpX_induct wpY_induct
      dsimp only
      exact br_t ha (br_t hneg (br_t ha (br_t hneg ⟨rfl, I2⟩)))
    · obtain ⟨v, hj, rfl⟩ := nI_of hneg
      by_cases hv : v < 16
      · have hYI : ∀ (Q : Int32 → SY → Prop), (¬ (tm_vc v ∈ mX (49 + 4 * (ng - 1)) ∨ tm_vc v ∈ mX (49 + 4 * (ng - 1) + 1)) → Q (-6) (nI n, nI q, nI ng, nI kk, T', L', K, bo, bs, be, fa, fr, fe, hr, ft, hyA, vl', ee, wb)) → (tm_vc v ∈ mX (49 + 4 * (ng - 1)) ∨ tm_vc v ∈ mX (49 + 4 * (ng - 1) + 1) → ng = 8 ∨ (8 ≤ v ∧ ∀ u, 8 * 0 ≤ u → u < 8 * 0 + 8 → fr_p mX (49 + 4 * (ng - 1)) u) → ∀ T2 L2 m2, cm_M 64 89 T2 L2 m2 → (∀ s, s < 81 → m2 s = mY s) → Q (-4) (nI n, nI q, nI ng, nI kk, T2, L2, K, bo, bs, be, fa, fr, fe, hr, ft, hyA, vl', ee, wb)) →
            (∀ hh, tm_vc v ∈ mX (49 + 4 * (ng - 1)) ∨ tm_vc v ∈ mX (49 + 4 * (ng - 1) + 1) → ng < 8 → (8 ≤ v → fr_l (fr_p mX (49 + 4 * (ng - 1))) (8 * 0) hh) → 48 < (tm_R (tm_sg n A Z) false (mX (49 + 4 * (ng - 1))) [tm_vc v] (tm_to v hh) 0).2.length ∨ 48 < (tm_R (tm_sg n A Z) false (mX (49 + 4 * (ng - 1) + 1)) [tm_vc v] (tm_to v hh) 0).2.length → ∀ T2 L2 bo2 bs2 be2 m2, cm_M 64 89 T2 L2 m2 → (∀ s, s < 81 → m2 s = mY s) → Q (-7) (nI n, nI q, nI ng, nI kk, T2, L2, K, bo2, bs2, be2, fa, fr, fe, hr, ft, hyA, vl', ee, wb)) →
            (∀ hh, tm_vc v ∈ mX (49 + 4 * (ng - 1)) ∨ tm_vc v ∈ mX (49 + 4 * (ng - 1) + 1) → ng < 8 → (8 ≤ v → fr_l (fr_p mX (49 + 4 * (ng - 1))) (8 * 0) hh) → (tm_R (tm_sg n A Z) false (mX (49 + 4 * (ng - 1))) [tm_vc v] (tm_to v hh) 0).2.length ≤ 48 → (tm_R (tm_sg n A Z) false (mX (49 + 4 * (ng - 1) + 1)) [tm_vc v] (tm_to v hh) 0).2.length ≤ 48 → ∀ T2 L2 bo2 bs2 be2 m2, cm_M 64 89 T2 L2 m2 → m2 (49 + 4 * (ng - 1)) = (tm_R (tm_sg n A Z) false (mX (49 + 4 * (ng - 1))) [tm_vc v] (tm_to v hh) 0).2 → m2 (49 + 4 * (ng - 1) + 1) = (tm_R (tm_sg n A Z) false (mX (49 + 4 * (ng - 1) + 1)) [tm_vc v] (tm_to v hh) 0).2 → m2 (49 + 4 * (ng - 1) + 2) = mX (49 + 4 * (ng - 1)) → m2 (49 + 4 * (ng - 1) + 3) = mX (49 + 4 * (ng - 1) + 1) → m2 (49 + 4 * (ng - 1) + 4) = (tm_R (tm_sg n A Z) false (mX (49 + 4 * (ng - 1))) [tm_vc v] (tm_ba v) 0).2 → m2 (49 + 4 * (ng - 1) + 5) = (tm_R (tm_sg n A Z) false (mX (49 + 4 * (ng - 1) + 1)) [tm_vc v] (tm_ba v) 0).2 → (∀ s, s < 81 → s < 49 + 4 * (ng - 1) ∨ 49 + 4 * (ng - 1) + 7 < s → m2 s = mY s) → Q (nI (ng + 1)) (nI n, nI q, nI (ng + 1), nI kk, T2, L2, K, bo2, bs2, be2, fa, fr, fe, hr, ft, upd (upd hyA (ng - 1) 1) ng 0, vl', ee, wb)) → wpY_induct Q (nI n, nI q, nI ng, nI kk, T', L', K, bo, bs, be, fa, fr, fe, hr, ft, hyA, vl', ee, wb) (nI v) := by
          intro Q c1 c2 c3 c4
          refine yp_induct (s1 := sg) (s2 := sg) (hyv := hy (ng - 1)) k2 hv hS hsY hMY k3 k4 (by rw [l1]; exact w1) (by rw [l2]; exact w2) (by rw [l1]; exact w5) (by rw [l2]; exact w6) (hHy (ng - 1) (by omega)) ?_ ?_ ?_ ?_
          · rw [l1, l2]
            exact c1
          · rw [l1, l2]
            intro a b
            apply c2 a
            rcases b with b | ⟨b1, b2⟩
            · exact Or.inl b
            · exact Or.inr ⟨b1, fun u x y => (hfrp u).mp (b2 u x y)⟩
          · rw [l1, l2]
            exact fun hh a b c => c3 hh a b (fun z => hfrl _ _ (c z))
          · rw [l1, l2]
            exact fun hh a b c => c4 hh a b (fun z => hfrl _ _ (c z))
        refine xp_induct k2 hv hW hsX hMX k3 (fun hni => ?_) (fun hin hu => ?_) (fun hh hin h8 hfr hlong T1 L1 E1 B1 m1 hM1 f1 => ?_) (fun hh hin h8 hfr z1 z2 T1 L1 E1 B1 m1 hM1 x1 x2 x3 x4 x5 x6 x7 x8 f1 => ?_)
        · exact hYI _ (fun _ => ⟨rfl, I2⟩) (fun z => absurd z hni) (fun _ z => absurd z hni) (fun _ z => absurd z hni)
        · refine hYI _ (fun z => absurd hin z) (fun _ _ T2 L2 m2 hM2 f2 => ⟨rfl, re_mk (re_keep hI0 hMX (fun _ _ => rfl) hM2 f2)⟩) (fun hh _ h8 hfr => ?_) (fun hh _ h8 hfr => ?_)
          · rcases hu with z | ⟨y1, y2⟩
            · omega
            · exact absurd (y2 hh (hfr y1).1 (hfr y1).2.1) (hfr y1).2.2.1
          · rcases hu with z | ⟨y1, y2⟩
            · omega
            · exact absurd (y2 hh (hfr y1).1 (hfr y1).2.1) (hfr y1).2.2.1
        · have heq : ∀ h2, (8 ≤ v → fr_l (fr_p mX (49 + 4 * (ng - 1))) (8 * 0) h2) → tm_to v h2 = tm_to v hh := by
            intro h2 hf2
            unfold tm_to
            by_cases v8 : v < 8
            · rw [if_pos v8, if_pos v8]
            · rw [fr_u (hf2 (by omega)) (hfr (by omega))]
          refine hYI _ (fun z => absurd hin z) (fun _ hu => ?_) (fun h2 _ _ hf2 _ T2 L2 bo2 bs2 be2 m2 hM2 f2 => ⟨rfl, re_mk (re_keep hI0 hM1 f1 hM2 f2)⟩) (fun h2 _ _ hf2 y1 y2 => ?_)
          · rcases hu with z | ⟨y1, y2⟩
            · omega
            · exact absurd (y2 hh (hfr y1).1 (hfr y1).2.1) (hfr y1).2.2.1
          · rw [heq h2 hf2] at y1 y2
            omega
        · have heq : ∀ h2, (8 ≤ v → fr_l (fr_p mX (49 + 4 * (ng - 1))) (8 * 0) h2) → tm_to v h2 = tm_to v hh := by
            intro h2 hf2
            unfold tm_to
            by_cases v8 : v < 8
            · rw [if_pos v8, if_pos v8]
            · rw [fr_u (hf2 (by omega)) (hfr (by omega))]
          refine hYI _ (fun z => absurd hin z) (fun _ hu => ?_) (fun h2 _ _ hf2 y => ?_) (fun h2 _ _ hf2 _ _ T2 L2 bo2 bs2 be2 m2 hM2 => ?_)
          · rcases hu with z | ⟨y1, y2⟩
            · omega
            · exact absurd (y2 hh (hfr y1).1 (hfr y1).2.1) (hfr y1).2.2.1
          · rw [heq h2 hf2] at y
            omega
          · rw [heq h2 hf2]
            intro y1 y2 y3 y4 y5 y6 f2
            refine ⟨rfl, ?_⟩
            have hh8 : 8 ≤ v → hh < 8 := fun z => by
              have := (hfr z).2.1
              omega
            have hPv := yi_Pv (n := n) (A := A) (Z := Z) hv
            have r1 := iv_Rok (pat := false) (fr := [tm_vc v]) hV w1 w3 hPv (ri_to hv hh8) (ri_toF (R := iv_R mX)) (Or.inl rfl)
            have r2 := iv_Rok (pat := false) (fr := [tm_vc v]) hV w2 w4 hPv (ri_to hv hh8) (ri_toF (R := iv_R mX)) (Or.inl rfl)
            have b1 := iv_Rok (pat := false) (fr := [tm_vc v]) hV w1 w3 hPv ri_ba (ri_baF (R := iv_R mX)) (Or.inl rfl)
            have b2 := iv_Rok (pat := false) (fr := [tm_vc v]) hV w2 w4 hPv ri_ba (ri_baF (R := iv_R mX)) (Or.inl rfl)
            have n1 := tm_R_len1 (g := tm_sg n A Z) (w := mX (49 + 4 * (ng - 1))) (fr := [tm_vc v]) (ri_baL v) _ 0 (Nat.le_refl _)
            have n2 := tm_R_len1 (g := tm_sg n A Z) (w := mX (49 + 4 * (ng - 1) + 1)) (fr := [tm_vc v]) (ri_baL v) _ 0 (Nat.le_refl _)
            have hW2 : iv_W n A Z q (ng + 1) (fun j => if j = ng then false else if j = ng - 1 then true else hy j) m1 := by
              refine iv_W_goals (fun s a b => f1 s (by omega) (by omega)) (by rw [f1 0 (by omega) (by omega)]; exact h48) (by omega) hW (fun j hj => ?_)
              by_cases q1 : j = ng
              · have ej : 49 + 4 * j = 49 + 4 * (ng - 1) + 4 := by omega
                rw [ej, x5, x6]
                refine ⟨⟨sg, b1.1, b2.1, b1.2, b2.2, by omega, by omega⟩, fun z => ?_, fun _ => ⟨x7, x8⟩⟩
                rw [if_pos q1] at z
                cases z
              · by_cases q2 : j = ng - 1
                · rw [q2, x1, x2, x3, x4]
                  refine ⟨⟨sg, r1.1, r2.1, r1.2, r2.2, z1, z2⟩, fun _ => ⟨sg, w1, w2, w3, w4, w5, w6⟩, fun z => ?_⟩
                  rw [if_neg (by omega), if_pos rfl] at z
                  cases z
                · have := hW.2.2.2.2.2.2 j (by omega)
                  rw [f1 (49 + 4 * j) (by omega) (by omega), f1 (49 + 4 * j + 1) (by omega) (by omega), f1 (49 + 4 * j + 2) (by omega) (by omega), f1 (49 + 4 * j + 3) (by omega) (by omega)]
                  try dsimp only
                  rw [if_neg q1, if_neg q2]
                  exact this
            refine re_mk ⟨hM1, hM2, hW2, ⟨?_, fun i hi => ?_, fun i hi => ?_, fun j hj => ?_⟩, Or.inr ⟨kk, k1, rfl, by omega, k5⟩, hsX, hsY, hP, re_Hext (re_Rext (fun s a b => f1 s (by omega) (by omega))) hH, fun j hj => ?_, hvX, hvY⟩
            · rw [f1 0 (by omega) (by omega), f2 0 (by omega) (by omega)]
              exact e0
            · rw [f1 _ (by omega) (by omega), f2 _ (by omega) (by omega)]
              exact hL.2.1 i hi
            · rw [f1 _ (by omega) (by omega), f2 _ (by omega) (by omega)]
              exact hL.2.2.1 i hi
            · by_cases q1 : j = ng
              · have ej : 49 + 4 * j = 49 + 4 * (ng - 1) + 4 := by omega
                rw [ej, x5, y5]
                refine ⟨rfl, y6.trans x6.symm, fun z => ?_⟩
                dsimp only at z
                rw [if_pos q1] at z
                cases z
              · by_cases q2 : j = ng - 1
                · rw [q2, x1, x2, x3, x4, y1, y2, y3, y4]
                  exact ⟨rfl, rfl, fun _ => ⟨rfl, rfl⟩⟩
                · have := hL.2.2.2 j (by omega)
                  rw [f1 (49 + 4 * j) (by omega) (by omega), f1 (49 + 4 * j + 1) (by omega) (by omega), f1 (49 + 4 * j + 2) (by omega) (by omega), f1 (49 + 4 * j + 3) (by omega) (by omega), f2 (49 + 4 * j) (by omega) (by omega), f2 (49 + 4 * j + 1) (by omega) (by omega), f2 (49 + 4 * j + 2) (by omega) (by omega), f2 (49 + 4 * j + 3) (by omega) (by omega)]
                  try dsimp only
                  rw [if_neg q1, if_neg q2]
                  exact this
            · by_cases q1 : j = ng
              · have h9 : ¬ (fun j => if j = ng then false else if j = ng - 1 then true else hy j) j = true := by
                  dsimp only
                  rw [if_pos q1]
                  decide
                have hval : upd (upd hyA (ng - 1) 1) ng 0 j = 0 := by rw [q1, cm_us]
                exact hval.trans (if_neg h9).symm
              · rw [cm_un q1]
                by_cases q2 : j = ng - 1
                · have h9 : (fun j => if j = ng then false else if j = ng - 1 then true else hy j) j = true := by
                    dsimp only
                    rw [if_neg q1, if_pos q2]
                  have hval : upd hyA (ng - 1) 1 j = 1 := by rw [q2, cm_us]
                  exact hval.trans (if_pos h9).symm
                · rw [cm_un q2, hHy j (by omega)]
                  have h9 : (fun j => if j = ng then false else if j = ng - 1 then true else hy j) j = hy j := by
                    dsimp only
                    rw [if_neg q1, if_neg q2]
                  by_cases hyj : hy j = true
                  · rw [if_pos hyj]
                    exact (if_pos (h9.trans hyj)).symm
                  · rw [if_neg hyj]
                    exact (if_neg (fun z => hyj (h9.symm.trans z))).symm
      · have a16 : ¬ nI v < 16 := nI_nlt (b := 16) (by omega) hj
        have a15 : ¬ nI v ≤ 15 := nI_ge (a := 15) (by omega) hj
        unfold wpX_induct wpY_induct
        dsimp only
        exact br_t ha (br_f hneg (br_f a16 (br_t ha (br_f hneg (br_f a15 ⟨rfl, I2⟩)))))
end
section
/-! 39: declare, setVar, the constructors -/
theorem rd_ne {n : Nat} {A A' : Nat → List Nat} {Z Z' : Nat → Nat} (hn : n + 1 ≤ 8) (hA : ∀ f, f < n → A' f = A f ∧ Z' f = Z f) {c : Nat} (hc : c ≠ 70 + n) : tm_sg (n + 1) A' Z' c = tm_sg n A Z c := by
  cases e : tm_sg n A Z c with
  | some p => exact tm_sg_mono (Nat.le_succ n) hn hA c p e
  | none =>
    rcases tm_sg_c (n + 1) A' Z' c hn with ⟨z, w⟩ | ⟨z, w⟩ | ⟨z, w⟩ | ⟨z, w⟩ | ⟨z, w⟩ | ⟨z, w⟩ | ⟨f, hf, z, w⟩ | ⟨w, _⟩
    · rw [z] at e; cases e
    · rw [z] at e; cases e
    · rw [z] at e; cases e
    · rw [z] at e; cases e
    · rw [tm_sg_n z] at e; cases e
    · rw [tm_sg_l z] at e; cases e
    · rw [z, tm_sg_f (show f < n by omega) (by omega)] at e
      cases e
    · exact w
theorem rd_mask : ∀ a, a < 4 → (((1 : Int32) <<< (nI a &&& 31)) - 1).toBitVec.toNat = 2 ^ a - 1 := by decide +kernel
theorem i_vc_declare {k : Nat} {u : SX} {v : SY} (I : i_Rel k u v) (hk : k + 5 ≤ 2560) (v1 : Int32) (v2 : Int32) (v3 : Int32) : wpX_declare (fun r u' => wpY_declare (fun r' v' => r' = r ∧ i_Rel (k + 5) u' v') v v1 v2 v3) u v1 v2 v3 := by
  have I2 := I
  obtain ⟨n, q, ng, A, Z, hy, pr, val, e2, act, mX, mY, T, L, ay, gs, so, E, B, pv, vl, el, T', L', K, bo, bs, be, fa, fr, fe, hr, ft, hyA, vl', ee, wb, rfl, rfl, hI⟩ := I
  have hI0 := hI
  obtain ⟨hMX, hMY, hW, hL, hA, hsX, hsY, hP, hH, hHy, hvX, hvY⟩ := hI
  have hS := hW.1
  have hn8 := hS.1
  unfold wpX_declare wpY_declare
  dsimp only
  by_cases hn : n < 8
  · have a8 : nI n < 8 := nI_lt (b := 8) hn (by decide)
    refine br_t a8 ?_
    by_cases h1 : v1 < 1
    · exact br_t h1 (br_t a8 (br_t h1 ⟨rfl, I2⟩))
    · refine br_f h1 ?_
      by_cases h3 : v1 ≤ 3
      · have hge : ¬ v1 < 0 := fun z => h1 (Int32.lt_trans z (by decide))
        obtain ⟨a, ha, rfl⟩ := nI_of hge
        have ha1 : 1 ≤ a := by
          rw [show (1 : Int32) = nI 1 from rfl, nI_ltI ha (by omega)] at h1
          omega
        have ha3 : a ≤ 3 := by
          rw [show (3 : Int32) = nI 3 from rfl, nI_leI ha (by omega)] at h3
          omega
        refine br_t h3 ?_
        have hgo : ∀ z : Nat, z < 2 → v3 = nI z → (∀ Q, wY_declare_37 Q (nI a) v2 v3 (nI n) (nI q) (nI ng) act T' L' K bo bs be fa fr fe hr ft hyA vl' ee wb → wpY_declare Q (nI n, nI q, nI ng, act, T', L', K, bo, bs, be, fa, fr, fe, hr, ft, hyA, vl', ee, wb) (nI a) v2 v3) →
            wX_declare_37 (fun r u' => wpY_declare (fun r' v' => r' = r ∧ i_Rel (k + 5) u' v') (nI n, nI q, nI ng, act, T', L', K, bo, bs, be, fa, fr, fe, hr, ft, hyA, vl', ee, wb) (nI a) v2 v3) (nI a) v2 v3 (nI n) (nI q) act (nI ng) T L ay gs so E B pv vl el := by
          intro z hz ez hwrap
          subst ez
          unfold wX_declare_37 wpX_setSymbol
          have hmask : v2 &&& (((1 : Int32) <<< (nI a &&& 31)) - 1) = nI (v2.toBitVec.toNat % 2 ^ a) := pk_and v2 a (rd_mask a (by omega))
          rw [hmask, show (70 : Int32) + nI n = nI (70 + n) from nI_add 70 n, xi_ch (show 70 + n < 65536 by omega)]
          refine nm_e ?_
          dsimp only
          rw [nI_clamp (n := 70 + n) (by omega), nI_1 n]
          have hin : vp_in (nI (70 + n)) 256 := vp_in_nI (by omega) (by omega)
          refine ⟨hin, nm_e ⟨hin, nm_e ⟨hin, nm_e (nm_e ?_)⟩⟩⟩
          refine hwrap _ ?_
          unfold wY_declare_37
          rw [nI_clamp (n := n) (by omega), hmask, nI_1 n]
          have hin8 : vp_in (nI n) 8 := vp_in_nI hn (by omega)
          refine ⟨hin8, nm_e ⟨hin8, nm_e ⟨hin8, nm_e (nm_e ⟨rfl, ?_⟩)⟩⟩⟩
          generalize hA' : (fun f => if f = n then so_bits a v2.toBitVec.toNat else A f : Nat → List Nat) = A'
          generalize hZ' : (fun f => if f = n then z else Z f : Nat → Nat) = Z'
          have hAn : A' n = so_bits a v2.toBitVec.toNat := by rw [← hA']; exact if_pos rfl
          have hZn : Z' n = z := by rw [← hZ']; exact if_pos rfl
          have hAZ : ∀ f, f < n → A' f = A f ∧ Z' f = Z f := by
            intro f hf
            rw [← hA', ← hZ']
            exact ⟨if_neg (by omega), if_neg (by omega)⟩
          have hS2 : tm_SG (n + 1) A' Z' := by
            refine ⟨by omega, fun f hf => ?_⟩
            by_cases q1 : f = n
            · rw [q1, hAn, hZn, so_bits_len]
              exact ⟨ha1, ha3, so_bits_B _ _, hz⟩
            · rw [(hAZ f (by omega)).1, (hAZ f (by omega)).2]
              exact hS.2 f (by omega)
          refine re_mk (n := n + 1) (A := A') (Z := Z') ⟨hMX, hMY, iv_W_decl hS2 hAZ hW, hL, hA, ?_, ?_, hP, hH, hHy, hvX, hvY⟩
          · intro c hc
            by_cases q1 : c = 70 + n
            · subst q1
              have hsg := tm_sg_f (n := n + 1) (A := A') (Z := Z') (f := n) (by omega) (by omega)
              refine ⟨fun a2 s2 h2 => ?_, fun h2 => ?_⟩
              · rw [hsg] at h2
                obtain ⟨rfl, rfl⟩ := Prod.mk.inj (Option.some.inj h2)
                rw [cm_us, cm_us, cm_us, hAn, hZn, so_bits_len, so_bits_num]
                exact ⟨rfl, rfl, rfl⟩
              · rw [hsg] at h2
                cases h2
            · rw [rd_ne (by omega) hAZ q1, cm_un q1, cm_un q1, cm_un q1]
              exact hsX c hc
          · intro f hf
            by_cases q1 : f = n
            · rw [q1, cm_us, cm_us, cm_us, hAn, hZn, so_bits_len, so_bits_num]
              exact ⟨rfl, rfl, rfl⟩
            · rw [cm_un q1, cm_un q1, cm_un q1, (hAZ f (by omega)).1, (hAZ f (by omega)).2]
              exact hsY f (by omega)
        by_cases z0 : v3 = 0
        · exact br_t z0 (hgo 0 (by omega) z0 (fun Q hQ => by
            unfold wpY_declare
            dsimp only
            exact br_t a8 (br_f h1 (br_t h3 (br_t z0 hQ)))))
        · refine br_f z0 ?_
          by_cases z1 : v3 = 1
          · exact br_t z1 (hgo 1 (by omega) z1 (fun Q hQ => by
              unfold wpY_declare
              dsimp only
              exact br_t a8 (br_f h1 (br_t h3 (br_f z0 (br_t z1 hQ))))))
          · exact br_f z1 (br_t a8 (br_f h1 (br_t h3 (br_f z0 (br_f z1 ⟨rfl, I2⟩)))))
      · exact br_f h3 (br_t a8 (br_f h1 (br_f h3 ⟨rfl, I2⟩)))
  · have a8 : ¬ nI n < 8 := nI_nlt (b := 8) (by omega) (by omega)
    exact br_f a8 (br_f a8 ⟨rfl, I2⟩)
/-! the constructor -/
def ig_g (k : Nat) : tm_G := fun c => match tm_vn c with
  | some v => if v < k then tm_sg 0 (fun _ => []) (fun _ => 0) c else none
  | none => tm_sg 0 (fun _ => []) (fun _ => 0) c
theorem ig_v {k c v : Nat} (h : tm_vn c = some v) : ig_g k c = if v < k then some ([], if v < 8 then 0 else 1) else none := by
  unfold ig_g
  rw [h]
  dsimp only
  rw [tm_sg_V h]
theorem ig_n {k c : Nat} (h : tm_vn c = none) : ig_g k c = tm_sg 0 (fun _ => []) (fun _ => 0) c := by
  unfold ig_g
  rw [h]
theorem ig_16 (c : Nat) : ig_g 16 c = tm_sg 0 (fun _ => []) (fun _ => 0) c := by
  cases h : tm_vn c with
  | none => exact ig_n h
  | some v => rw [ig_v h, if_pos (tm_vn_ch h).2, tm_sg_V h]
theorem ig_step {k : Nat} {ay gs so : Nat → Int32} (hk : k < 16) (h : sg_X (ig_g k) ay gs so) : sg_X (ig_g (k + 1)) (upd ay (tm_vc k) 0) (upd gs (tm_vc k) 0) (upd so (tm_vc k) (if k < 8 then 0 else 1)) := by
  intro c hc
  by_cases e : c = tm_vc k
  · subst e
    rw [ig_v (tm_vn_vc hk), if_pos (by omega), cm_us, cm_us, cm_us]
    refine ⟨fun a s z => ?_, fun z => nomatch z⟩
    obtain ⟨rfl, rfl⟩ := Prod.mk.inj (Option.some.inj z)
    refine ⟨rfl, rfl, ?_⟩
    split <;> rfl
  · rw [cm_un e, cm_un e, cm_un e]
    have : ig_g (k + 1) c = ig_g k c := by
      cases h : tm_vn c with
      | none => rw [ig_n h, ig_n h]
      | some v =>
        rw [ig_v h, ig_v h]
        have hv : v ≠ k := by
          intro z
          apply e
          rw [(tm_vn_ch h).1, z]
        by_cases hlt : v < k
        · rw [if_pos hlt, if_pos (by omega)]
        · rw [if_neg hlt, if_neg (by omega)]
    rw [this]
    exact h c hc
theorem ig_0 {ay : Nat → Int32} (h : ∀ c, c < 256 → ay c = -1) : sg_X (ig_g 0) (upd (upd (upd (upd ay 90 0) 83 1) 78 0) 67 2) (upd (upd (upd (upd (fun _ => 0) 90 0) 83 0) 78 0) 67 2) (upd (upd (upd (upd (fun _ => 0) 90 0) 83 0) 78 1) 67 1) := by
  intro c hc
  by_cases e1 : c = 67
  · subst e1
    refine ⟨fun a s z => ?_, fun z => nomatch (show some (([0, 1], 1) : List Nat × Nat) = none from z)⟩
    obtain ⟨rfl, rfl⟩ := Prod.mk.inj (Option.some.inj (show some (([0, 1], 1) : List Nat × Nat) = some (a, s) from z))
    exact ⟨rfl, rfl, rfl⟩
  by_cases e2 : c = 78
  · subst e2
    refine ⟨fun a s z => ?_, fun z => nomatch (show some (([], 1) : List Nat × Nat) = none from z)⟩
    obtain ⟨rfl, rfl⟩ := Prod.mk.inj (Option.some.inj (show some (([], 1) : List Nat × Nat) = some (a, s) from z))
    exact ⟨rfl, rfl, rfl⟩
  by_cases e3 : c = 83
  · subst e3
    refine ⟨fun a s z => ?_, fun z => nomatch (show some (([0], 0) : List Nat × Nat) = none from z)⟩
    obtain ⟨rfl, rfl⟩ := Prod.mk.inj (Option.some.inj (show some (([0], 0) : List Nat × Nat) = some (a, s) from z))
    exact ⟨rfl, rfl, rfl⟩
  by_cases e4 : c = 90
  · subst e4
    refine ⟨fun a s z => ?_, fun z => nomatch (show some (([], 0) : List Nat × Nat) = none from z)⟩
    obtain ⟨rfl, rfl⟩ := Prod.mk.inj (Option.some.inj (show some (([], 0) : List Nat × Nat) = some (a, s) from z))
    exact ⟨rfl, rfl, rfl⟩
  have hnone : ig_g 0 c = none := by
    cases hv : tm_vn c with
    | some v => rw [ig_v hv, if_neg (Nat.not_lt_zero _)]
    | none =>
      rw [ig_n hv]
      refine tm_sg_o ⟨e4, e3, e2, e1⟩ ?_ ?_ (by omega)
      · intro z
        unfold tm_vn at hv
        rw [if_pos z] at hv
        cases hv
      · intro z
        unfold tm_vn at hv
        rw [if_neg (by omega), if_pos z] at hv
        cases hv
  refine ⟨fun a s z => ?_, fun _ => ?_⟩
  · rw [hnone] at z
    cases z
  · rw [cm_un e1, cm_un e2, cm_un e3, cm_un e4]
    exact h c hc
section IN
variable {xn xq xa xg : Int32} {T L ay gs so E B pv vl el : Nat → Int32}
theorem il_168 {post : SX → Prop} (h : ∀ ay gs so, sg_X (ig_g 16) ay gs so → post (xn, xq, xa, xg, T, L, ay, gs, so, E, B, pv, vl, el)) : ∀ f v ay gs so, 16 < f + v → v ≤ 16 → sg_X (ig_g v) ay gs so → wX_init_168 post f (nI v) xn xq xa xg T L ay gs so E B pv vl el := by
  intro f
  induction f with
  | zero => intro v ay gs so a b; omega
  | succ f ih =>
    intro v ay gs so a b hs
    rw [wX_init_168]
    dsimp only
    refine pk_le 16 v (fun hge => ?_) (fun hlt => ?_)
    · have e : v = 16 := by omega
      subst e
      exact h ay gs so hs
    · have hc := tm_vc_lt hlt
      have hin : vp_in (nI (tm_vc v)) 256 := vp_in_nI hc (by omega)
      have hst := ig_step hlt hs
      refine xp_letter hlt ?_
      unfold wX_init_194 wpX_setSymbol
      dsimp only
      rw [nI_clamp (n := tm_vc v) (by omega), nI_1 v]
      refine pk_le 8 v (fun h8 => ?_) (fun h8 => ?_)
      · rw [if_neg (by omega)] at hst
        exact ⟨hin, nm_e ⟨hin, nm_e ⟨hin, nm_e (nm_e (ih (v + 1) _ _ _ (by omega) (by omega) hst))⟩⟩⟩
      · rw [if_pos h8] at hst
        exact ⟨hin, nm_e ⟨hin, nm_e ⟨hin, nm_e (nm_e (ih (v + 1) _ _ _ (by omega) (by omega) hst))⟩⟩⟩
theorem il_110 {post : SX → Prop} (h : ∀ ay gs so, sg_X (ig_g 16) ay gs so → post (xn, xq, xa, xg, T, L, ay, gs, so, E, B, pv, vl, el)) : ∀ f i ay, 256 < f + i → i ≤ 256 → (∀ c, c < i → ay c = -1) → wX_init_110 post xn xq xa xg f (nI i) T L ay ((fun _ => 0)) ((fun _ => 0)) E B pv vl el := by
  intro f
  induction f with
  | zero => intro i ay a b; omega
  | succ f ih =>
    intro i ay a b hi
    rw [wX_init_110]
    dsimp only
    refine pk_le 256 i (fun hge => ?_) (fun hlt => ?_)
    · have h0 := ig_0 (ay := ay) (fun c hc => hi c (by omega))
      have i90 : vp_in (90 : Int32) 256 := pk_in 90 256 (by omega)
      have i83 : vp_in (83 : Int32) 256 := pk_in 83 256 (by omega)
      have i78 : vp_in (78 : Int32) 256 := pk_in 78 256 (by omega)
      have i67 : vp_in (67 : Int32) 256 := pk_in 67 256 (by omega)
      have c90 : (90 : Int32).toNatClampNeg = 90 := by decide
      have c83 : (83 : Int32).toNatClampNeg = 83 := by decide
      have c78 : (78 : Int32).toNatClampNeg = 78 := by decide
      have c67 : (67 : Int32).toNatClampNeg = 67 := by decide
      unfold wpX_setSymbol
      dsimp only
      rw [c90, c83, c78, c67]
      exact ⟨i90, nm_e ⟨i90, nm_e ⟨i90, nm_e ⟨i83, nm_e ⟨i83, nm_e ⟨i83, nm_e ⟨i78, nm_e ⟨i78, nm_e ⟨i78, nm_e ⟨i67, nm_e ⟨i67, nm_e ⟨i67, nm_e ⟨17, il_168 h 17 0 _ _ _ (by omega) (by omega) h0⟩⟩⟩⟩⟩⟩⟩⟩⟩⟩⟩⟩⟩
    · rw [nI_clamp (n := i) (by omega)]
      refine ⟨vp_in_nI hlt (by omega), nm_e (nm_r (nI_1 i) (ih (i + 1) _ (by omega) (by omega) (fun c hc => ?_)))⟩
      by_cases e : c = i
      · rw [e, cm_us]
      · rw [cm_un e]
        exact hi c (by omega)
end IN
theorem i_vc0 : wpX_init (fun u => wpY_init (fun v => i_Rel 0 u v)) := by
  unfold wpX_init
  refine ⟨257, il_110 (fun ay gs so hs => ?_) 257 0 _ (by omega) (by omega) (fun c hc => absurd hc (Nat.not_lt_zero _))⟩
  unfold wpY_init
  have hempty : ∀ W N, cm_M W N (fun _ => 0) (fun _ => 0) (fun _ => []) := fun W N s hs => ⟨rfl, Nat.zero_le _, fun i hi => absurd hi (Nat.not_lt_zero _)⟩
  refine re_mk (n := 0) (q := 0) (ng := 0) (A := fun _ => []) (Z := fun _ => 0) (hy := fun _ => false) (pr := fun _ => false) (val := fun _ => 0) (e2 := fun _ _ => 0) (mX := fun _ => []) (mY := fun _ => []) ⟨hempty _ _, hempty _ _, ⟨⟨by omega, fun f hf => absurd hf (Nat.not_lt_zero _)⟩, by omega, by omega, Nat.zero_le _, ⟨fun k hk => absurd hk (Nat.not_lt_zero _), fun _ _ _ => rfl⟩, ⟨fun f k _ _ z => absurd rfl z, fun f k _ _ => ⟨fun z => absurd rfl z, fun _ => rfl⟩, fun _ _ => Nat.zero_le _⟩, fun j hj => absurd hj (Nat.not_lt_zero _)⟩, ⟨rfl, fun _ _ => rfl, fun _ _ => rfl, fun j hj => absurd hj (Nat.not_lt_zero _)⟩, Or.inl ⟨rfl, rfl⟩, ?_, fun f hf => absurd hf (Nat.not_lt_zero _), fun k _ => ⟨rfl, fun _ => rfl, rfl⟩, fun f k _ _ => rfl, fun j hj => absurd hj (Nat.not_lt_zero _), fun v _ => ⟨rfl, Nat.zero_le _, fun _ => ⟨Nat.zero_le _, fun i hi => absurd hi (Nat.not_lt_zero _)⟩⟩, fun v _ => ⟨rfl, Nat.zero_le _, fun _ => ⟨Nat.zero_le _, fun i hi => absurd hi (Nat.not_lt_zero _)⟩⟩⟩
  intro c hc
  have := hs c hc
  rw [ig_16] at this
  exact this
end
section
/-! 40: textChar, setVar -/
theorem rt_dep {x : Int32} (h : x < 0) : ¬ (-1) - x < 0 := by
  rw [Int32.lt_iff_toInt_lt] at h ⊢
  have h0 : (0 : Int32).toInt = 0 := by decide
  have h1 : (-1 : Int32).toInt = -1 := by decide
  have hx := Int32.le_toInt x
  rw [Int32.toInt_sub, h1, h0]
  rw [h0] at h
  rw [Int.bmod_eq_of_le (by omega) (by omega)]
  omega
theorem i_vc_textChar {k : Nat} {u : SX} {v : SY} (I : i_Rel k u v) (hk : k + 5 ≤ 2560) (v1 : Int32) (v2 : Int32) (v3 : Int32) : wpX_textChar (fun r => wpY_textChar (fun r' => r' = r ∧ i_Rel (k + 5) u v) v v1 v2 v3) u v1 v2 v3 := by
  have I2 := I
  obtain ⟨n, q, ng, A, Z, hy, pr, val, e2, act, mX, mY, T, L, ay, gs, so, E, B, pv, vl, el, T', L', K, bo, bs, be, fa, fr, fe, hr, ft, hyA, vl', ee, wb, rfl, rfl, hI⟩ := I
  have hI0 := hI
  obtain ⟨hMX, hMY, hW, hL, hA, hsX, hsY, hP, hH, hHy, hvX, hvY⟩ := hI
  have hq8 := hW.2.1
  have hg8 := hW.2.2.1
  unfold wpX_textChar wpY_textChar
  dsimp only
  have hread : ∀ (sx sy : Nat), sx < 86 → sy < 89 → mX sx = mY sy → ∀ (G : Int32 → Prop), (∀ r, wpY_c (fun r_9 => narrow .char (.int ((r_9.toUInt32 % 65536).toInt32)) = .int ((r_9.toUInt32 % 65536).toInt32) ∧ ((r_9.toUInt32 % 65536).toInt32 = r ∧ i_Rel (k + 5) (nI n, nI q, act, nI ng, T, L, ay, gs, so, E, B, pv, vl, el) (nI n, nI q, nI ng, act, T', L', K, bo, bs, be, fa, fr, fe, hr, ft, hyA, vl', ee, wb))) (nI n, nI q, nI ng, act, T', L', K, bo, bs, be, fa, fr, fe, hr, ft, hyA, vl', ee, wb) (nI sy) v3 → G r) → wpX_symbolAt (fun r => narrow .char (.int r) = .int r ∧ G r) (nI n, nI q, act, nI ng, T, L, ay, gs, so, E, B, pv, vl, el) (nI sx) v3 := by
    intro sx sy hsx hsy he G hG
    by_cases hn : v3 < 0
    · exact xp_symn hn ⟨rfl, hG 0 (yp_cn hn ⟨rfl, rfl, I2⟩)⟩
    · obtain ⟨i, hi, rfl⟩ := nI_of hn
      have hb := cm_b hMX hsx i
      refine xp_sym hMX hsx hi ⟨(pk_charN (by omega)).1, hG _ (yp_c hMY hsy hi ?_)⟩
      rw [← he, xi_ch (by omega)]
      exact ⟨(pk_charN (by omega)).1, rfl, I2⟩
  by_cases h0 : v1 < 0
  · obtain ⟨d, hd, ed⟩ := nI_of (rt_dep h0)
    refine br_t h0 (nm_r ed ?_)
    by_cases hdg : d < ng
    · have a1 : ¬ nI ng ≤ nI d := nI_ge hdg (by omega)
      refine br_f a1 ?_
      by_cases s0 : v2 < 0
      · exact br_t s0 (br_t h0 (nm_r ed (br_f (nI_pos hd) (br_f a1 (br_t s0 ⟨rfl, I2⟩)))))
      · refine br_f s0 ?_
        by_cases s3 : v2 ≤ 3
        · obtain ⟨j, hj, rfl⟩ := nI_of s0
          have hj3 : j ≤ 3 := by
            rw [show (3 : Int32) = nI 3 from rfl, nI_leI hj (by omega)] at s3
            exact s3
          refine br_t s3 ?_
          have hg : nI ng - 1 - nI d = nI (ng - 1 - d) := by rw [xi_m1 (by omega), pk_sub (by omega)]
          have hsl : (49 : Int32) + 4 * nI (ng - 1 - d) + nI j = nI (49 + 4 * (ng - 1 - d) + j) := by
            rw [show (4 : Int32) * nI (ng - 1 - d) = nI (4 * (ng - 1 - d)) from pk_mul 4 _, show (49 : Int32) + nI (4 * (ng - 1 - d)) = nI (49 + 4 * (ng - 1 - d)) from nI_add 49 _, nI_add]
          rw [hg, hsl]
          obtain ⟨l1, l2, l3⟩ := hL.2.2.2 (ng - 1 - d) (by omega)
          obtain ⟨_, hyt, hyf⟩ := hW.2.2.2.2.2.2 (ng - 1 - d) (by omega)
          have hHd := hHy (ng - 1 - d) (by omega)
          by_cases j2 : j < 2
          · have b2 : nI j < 2 := nI_lt (b := 2) j2 (by decide)
            refine hread (49 + 4 * (ng - 1 - d) + j) (49 + 4 * (ng - 1 - d) + j) (by omega) (by omega) ?_ _ (fun r hr2 => br_t h0 (nm_r ed (br_f (nI_pos hd) (br_f a1 (br_f s0 (br_t s3 (nm_r hg (br_t b2 ?_))))))))
            · have : j = 0 ∨ j = 1 := by omega
              rcases this with rfl | rfl
              · exact l1.symm
              · exact l2.symm
            · unfold wY_textChar_100
              rw [hsl]
              exact hr2
          · have b2 : ¬ nI j < 2 := nI_nlt (b := 2) (by omega) hj
            have hin : vp_in (nI (ng - 1 - d)) 8 := vp_in_nI (by omega) (by omega)
            cases hyv : hy (ng - 1 - d) with
            | false =>
              rw [hyv, if_neg (by decide)] at hHd
              have hnil : mX (49 + 4 * (ng - 1 - d) + j) = [] := by
                have : j = 2 ∨ j = 3 := by omega
                rcases this with rfl | rfl
                · exact (hyf hyv).1
                · exact (hyf hyv).2
              by_cases hn : v3 < 0
              · refine xp_symn hn ⟨rfl, br_t h0 (nm_r ed (br_f (nI_pos hd) (br_f a1 (br_f s0 (br_t s3 (nm_r hg (br_f b2 ⟨hin, br_t ?_ ⟨rfl, I2⟩⟩)))))))⟩
                rw [nI_clamp (by omega)]
                exact hHd
              · obtain ⟨i, hi, rfl⟩ := nI_of hn
                refine xp_sym hMX (by omega) hi ?_
                rw [hnil, tm_at_ge (Nat.zero_le _)]
                refine ⟨rfl, br_t h0 (nm_r ed (br_f (nI_pos hd) (br_f a1 (br_f s0 (br_t s3 (nm_r hg (br_f b2 ⟨hin, br_t ?_ ⟨rfl, I2⟩⟩)))))))⟩
                rw [nI_clamp (by omega)]
                exact hHd
            | true =>
              rw [hyv, if_pos rfl] at hHd
              refine hread (49 + 4 * (ng - 1 - d) + j) (49 + 4 * (ng - 1 - d) + j) (by omega) (by omega) ?_ _ (fun r hr2 => br_t h0 (nm_r ed (br_f (nI_pos hd) (br_f a1 (br_f s0 (br_t s3 (nm_r hg (br_f b2 ⟨hin, br_f ?_ ?_⟩))))))))
              · have : j = 2 ∨ j = 3 := by omega
                rcases this with rfl | rfl
                · exact (l3 hyv).1.symm
                · exact (l3 hyv).2.symm
              · rw [nI_clamp (by omega), hHd]
                decide
              · unfold wY_textChar_100
                rw [hsl]
                exact hr2
        · exact br_f s3 (br_t h0 (nm_r ed (br_f (nI_pos hd) (br_f a1 (br_f s0 (br_f s3 ⟨rfl, I2⟩))))))
    · have a1 : nI ng ≤ nI d := nI_le (by omega) hd
      exact br_t a1 (br_t h0 (nm_r ed (br_f (nI_pos hd) (br_t a1 ⟨rfl, I2⟩))))
  · obtain ⟨w, hw, rfl⟩ := nI_of h0
    refine br_f h0 ?_
    by_cases hwq : w < q
    · have a1 : ¬ nI q ≤ nI w := nI_ge hwq (by omega)
      refine br_f a1 ?_
      by_cases s0 : v2 < 0
      · exact br_t s0 (br_f h0 (br_f a1 (br_t s0 ⟨rfl, I2⟩)))
      · refine br_f s0 ?_
        by_cases s1 : v2 ≤ 1
        · obtain ⟨j, hj, rfl⟩ := nI_of s0
          have hj1 : j ≤ 1 := by
            rw [show (1 : Int32) = nI 1 from rfl, nI_leI hj (by omega)] at s1
            exact s1
          refine br_t s1 ?_
          rw [show (2 : Int32) * nI w = nI (2 * w) from pk_mul 2 w, show (1 : Int32) + nI (2 * w) = nI (1 + 2 * w) from nI_add 1 _, nI_add, show (33 : Int32) + nI (2 * w) = nI (33 + 2 * w) from nI_add 33 _, nI_add]
          refine hread (1 + 2 * w + j) (33 + 2 * w + j) (by omega) (by omega) ?_ _ (fun r hr2 => br_f h0 (br_f a1 (br_f s0 (br_t s1 hr2))))
          have := hL.2.1 (2 * w + j) (by omega)
          rw [← Nat.add_assoc, ← Nat.add_assoc] at this
          exact this.symm
        · exact br_f s1 (br_f h0 (br_f a1 (br_f s0 (br_f s1 ⟨rfl, I2⟩))))
    · have a1 : nI q ≤ nI w := nI_le (by omega) hw
      exact br_t a1 (br_f h0 (br_t a1 ⟨rfl, I2⟩))
end
section
/-! 41: setVar -/
def nb_i (b : Int32) (i : Nat) : Nat := (b >>> (nI (4 * i) &&& 31)).toBitVec.toNat % 16
theorem nb_e (b : Int32) (i : Nat) : (b >>> ((4 * nI i) &&& 31)) &&& 15 = nI (nb_i b i) := by
  rw [show (4 : Int32) * nI i = nI (4 * i) from pk_mul 4 i]
  exact pk_and _ 4 (by decide)
theorem nb_lt (b : Int32) (i : Nat) : nb_i b i < 16 := Nat.mod_lt _ (by decide)
section SV
variable {xn xq xa xg : Int32} {T L ay gs so E B pv vl el : Nat → Int32} {yn yq yg ya : Int32} {K bo bs be fa fr fe hr ft hyA ee wb : Nat → Int32} {b : Int32} {v a : Nat}
theorem sx_49 {post : Int32 → SX → Prop} (hv : v < 16) (ha : a ≤ 4) (h1 : (∀ j, j < a → nb_i b j ≤ 3) → post 1 (xn, xq, xa, xg, T, L, ay, gs, so, E, B, pv, upd vl v (nI a), upd el v b)) (h0 : ∀ j, j < a → 3 < nb_i b j → post 0 (xn, xq, xa, xg, T, L, ay, gs, so, E, B, pv, vl, el)) : ∀ f i, a < f + i → i ≤ a → (∀ j, j < i → nb_i b j ≤ 3) → wX_setVar_49 post (nI v) (nI a) b xn xq xa xg T L ay gs so E B pv vl el f (nI i) := by
  intro f
  induction f with
  | zero => intro i x y; omega
  | succ f ih =>
    intro i x y hj
    rw [wX_setVar_49]
    dsimp only
    rw [nI_clamp (n := v) (by omega), nb_e]
    have hl := nb_lt b i
    have hin : vp_in (nI v) 16 := vp_in_nI hv (by omega)
    refine pk_le a i (fun hge => ⟨hin, nm_e ⟨hin, nm_e (h1 (fun j z => hj j (by omega)))⟩⟩) (fun hlt => pk_le (nb_i b i) 3 (fun z => ?_) (fun z => h0 i hlt z))
    refine nm_r (nI_1 i) (ih (i + 1) (by omega) (by omega) (fun j z2 => ?_))
    by_cases e : j = i
    · rw [e]; exact z
    · exact hj j (by omega)
theorem sy_87 {post : Int32 → SY → Prop} (hv : v < 16) (hv8 : 8 ≤ v) (ha : a ≤ 4) (h1 : ∀ e', (∀ j, j < a → e' ((v - 8) * 4 + j) = nI (nb_i b j)) → (∀ t, t < (v - 8) * 4 ∨ (v - 8) * 4 + 4 ≤ t → e' t = ee t) → post 1 (yn, yq, yg, ya, T, L, K, bo, bs, be, fa, fr, fe, hr, ft, hyA, upd vl v (nI a), e', wb)) : ∀ f i e', a < f + i → i ≤ a → (∀ j, j < i → e' ((v - 8) * 4 + j) = nI (nb_i b j)) → (∀ t, t < (v - 8) * 4 ∨ (v - 8) * 4 + 4 ≤ t → e' t = ee t) → wY_setVar_87 post (nI v) (nI a) b yn yq yg ya f (nI i) T L K bo bs be fa fr fe hr ft hyA vl e' wb := by
  intro f
  induction f with
  | zero => intro i e' x y; omega
  | succ f ih =>
    intro i e' x y hj hk
    rw [wY_setVar_87]
    dsimp only
    rw [nI_clamp (n := v) (by omega), nb_e, show nI v - 8 = nI (v - 8) from pk_sub (b := 8) hv8, show nI (v - 8) * 4 = nI ((v - 8) * 4) from pk_mul _ 4, nI_add]
    have hin : vp_in (nI v) 16 := vp_in_nI hv (by omega)
    refine pk_le a i (fun hge => ⟨hin, nm_e (h1 e' (fun j z => hj j (by omega)) hk)⟩) (fun hlt => ?_)
    rw [nI_clamp (n := (v - 8) * 4 + i) (by omega)]
    refine ⟨vp_in_nI (by omega) (by omega), nm_e (nm_r (nI_1 i) (ih (i + 1) _ (by omega) (by omega) (fun j z => ?_) (fun t z => ?_)))⟩
    · by_cases q : j = i
      · rw [q, cm_us]
      · rw [cm_un (by omega)]
        exact hj j (by omega)
    · rw [cm_un (by omega)]
      exact hk t z
theorem sy_57 {post : Int32 → SY → Prop} (hv : v < 16) (hv8 : 8 ≤ v) (ha : a ≤ 4) (h1 : (∀ j, j < a → nb_i b j ≤ 3) → ∀ e', (∀ j, j < a → e' ((v - 8) * 4 + j) = nI (nb_i b j)) → (∀ t, t < (v - 8) * 4 ∨ (v - 8) * 4 + 4 ≤ t → e' t = ee t) → post 1 (yn, yq, yg, ya, T, L, K, bo, bs, be, fa, fr, fe, hr, ft, hyA, upd vl v (nI a), e', wb)) (h0 : ∀ j, j < a → 3 < nb_i b j → post 0 (yn, yq, yg, ya, T, L, K, bo, bs, be, fa, fr, fe, hr, ft, hyA, vl, ee, wb)) : ∀ f i, a < f + i → i ≤ a → (∀ j, j < i → nb_i b j ≤ 3) → wY_setVar_57 post (nI v) (nI a) b yn yq yg ya T L K bo bs be fa fr fe hr ft hyA vl ee wb f (nI i) := by
  intro f
  induction f with
  | zero => intro i x y; omega
  | succ f ih =>
    intro i x y hj
    rw [wY_setVar_57]
    dsimp only
    rw [nb_e]
    have hl := nb_lt b i
    refine pk_le a i (fun hge => ?_) (fun hlt => pk_le (nb_i b i) 3 (fun z => ?_) (fun z => h0 i hlt z))
    · exact ⟨a + 1, sy_87 hv hv8 ha (h1 (fun j z => hj j (by omega))) (a + 1) 0 ee (by omega) (Nat.zero_le _) (fun j z => absurd z (Nat.not_lt_zero _)) (fun _ _ => rfl)⟩
    · refine nm_r (nI_1 i) (ih (i + 1) (by omega) (by omega) (fun j z2 => ?_))
      by_cases e : j = i
      · rw [e]; exact z
      · exact hj j (by omega)
end SV
theorem i_vc_setVar {k : Nat} {u : SX} {v : SY} (I : i_Rel k u v) (hk : k + 5 ≤ 2560) (v1 : Int32) (v2 : Int32) (v3 : Int32) : wpX_setVar (fun r u' => wpY_setVar (fun r' v' => r' = r ∧ i_Rel (k + 5) u' v') v v1 v2 v3) u v1 v2 v3 := by
  have I2 := I
  obtain ⟨n, q, ng, A, Z, hy, pr, val, e2, act, mX, mY, T, L, ay, gs, so, E, B, pv, vl, el, T', L', K, bo, bs, be, fa, fr, fe, hr, ft, hyA, vl', ee, wb, rfl, rfl, hI⟩ := I
  have hI0 := hI
  obtain ⟨hMX, hMY, hW, hL, hA, hsX, hsY, hP, hH, hHy, hvX, hvY⟩ := hI
  unfold wpX_setVar wpY_setVar wY_setVar_31
  dsimp only
  by_cases h0 : v1 < 0
  · have h8 : v1 < 8 := Int32.lt_trans h0 (by decide)
    exact br_t h0 (br_t h0 (br_t h8 ⟨rfl, I2⟩))
  · obtain ⟨w, hw, rfl⟩ := nI_of h0
    refine br_f h0 ?_
    by_cases h16 : w < 16
    · have a16 : ¬ (16 : Int32) ≤ nI w := nI_ge (b := 16) h16 (by decide)
      have a15 : ¬ (15 : Int32) < nI w := nI_nlt (a := 15) (by omega) (by decide)
      refine br_f a16 ?_
      by_cases hneg : v2 < 0
      · have hng : ¬ (0 : Int32) ≤ v2 := Int32.not_le.mpr hneg
        refine br_f hng (br_f h0 ?_)
        by_cases w8 : w < 8
        · exact br_f (nI_ge (b := 8) w8 (by decide)) (br_t hneg ⟨rfl, I2⟩)
        · exact br_t (nI_le (a := 8) (by omega) hw) (br_f (nI_nlt (b := 8) (by omega) hw) (br_f a15 (br_t hneg ⟨rfl, I2⟩)))
      · have hng : (0 : Int32) ≤ v2 := Int32.not_lt.mp hneg
        obtain ⟨a, ha, rfl⟩ := nI_of hneg
        refine br_t hng ?_
        by_cases w8 : w < 8
        · have b8 : ¬ (8 : Int32) ≤ nI w := nI_ge (b := 8) w8 (by decide)
          refine br_f b8 ?_
          by_cases a7 : a ≤ 7
          · have c7 : nI a ≤ 7 := nI_le (b := 7) a7 (by decide)
            have hin : vp_in (nI w) 16 := vp_in_nI h16 (by omega)
            refine br_t c7 ⟨hin, nm_e (br_f h0 (br_f b8 (br_f hneg (br_t c7 ⟨hin, nm_e ⟨rfl, ?_⟩⟩))))⟩
            rw [nI_clamp (n := w) (by omega)]
            obtain ⟨val', q1, q2⟩ : ∃ f : Nat → Nat, f w = a ∧ ∀ x, x ≠ w → f x = val x := ⟨fun x => if x = w then a else val x, if_pos rfl, fun x h => if_neg h⟩
            refine re_mk (val := val') (e2 := e2) ⟨hMX, hMY, hW, hL, hA, hsX, hsY, hP, hH, hHy, fun x hx => ?_, fun x hx => ?_⟩
            · by_cases e : x = w
              · subst e
                rw [cm_us, q1]
                exact ⟨rfl, a7, fun z => by omega⟩
              · rw [cm_un e, q2 x e]
                exact hvX x hx
            · by_cases e : x = w
              · subst e
                rw [cm_us, q1]
                exact ⟨rfl, a7, fun z => by omega⟩
              · rw [cm_un e, q2 x e]
                exact hvY x hx
          · have c7 : ¬ nI a ≤ 7 := nI_ge (a := 7) (by omega) ha
            exact br_f c7 (br_f h0 (br_f b8 (br_f hneg (br_f c7 ⟨rfl, I2⟩))))
        · have b8 : (8 : Int32) ≤ nI w := nI_le (a := 8) (by omega) hw
          have b8' : ¬ nI w < 8 := nI_nlt (b := 8) (by omega) hw
          refine br_t b8 ?_
          by_cases a4 : a ≤ 4
          · have c4 : nI a ≤ 4 := nI_le (b := 4) a4 (by decide)
            refine br_t c4 ⟨a + 1, sx_49 h16 a4 (fun hok => ?_) (fun j hj hbad => ?_) (a + 1) 0 (by omega) (Nat.zero_le _) (fun j z => absurd z (Nat.not_lt_zero _))⟩
            · refine br_f h0 (br_t b8 (br_f b8' (br_f a15 (br_f hneg (br_t c4 ⟨a + 1, sy_57 h16 (by omega) a4 (fun _ e' he1 he2 => ?_) (fun j hj hbad => ?_) (a + 1) 0 (by omega) (Nat.zero_le _) (fun j z => absurd z (Nat.not_lt_zero _))⟩)))))
              · obtain ⟨val', q1, q2⟩ : ∃ f : Nat → Nat, f w = a ∧ ∀ x, x ≠ w → f x = val x := ⟨fun x => if x = w then a else val x, if_pos rfl, fun x h => if_neg h⟩
                obtain ⟨e3, r1, r2⟩ : ∃ f : Nat → Nat → Nat, f w = nb_i v3 ∧ ∀ x, x ≠ w → f x = e2 x := ⟨fun x => if x = w then nb_i v3 else e2 x, if_pos rfl, fun x h => if_neg h⟩
                refine ⟨rfl, re_mk (val := val') (e2 := e3) ⟨hMX, hMY, hW, hL, hA, hsX, hsY, hP, hH, hHy, fun x hx => ?_, fun x hx => ?_⟩⟩
                · by_cases e : x = w
                  · subst e
                    rw [cm_us, cm_us, q1, r1]
                    refine ⟨rfl, by omega, fun _ => ⟨a4, fun i hi => ⟨hok i hi, ?_⟩⟩⟩
                    have := nb_e v3 i
                    rw [show (4 : Int32) * nI i = nI (4 * i) from pk_mul 4 i] at this
                    exact this
                  · rw [cm_un e, cm_un e, q2 x e, r2 x e]
                    exact hvX x hx
                · by_cases e : x = w
                  · subst e
                    rw [cm_us, q1, r1]
                    exact ⟨rfl, by omega, fun _ => ⟨a4, fun i hi => ⟨hok i hi, he1 i hi⟩⟩⟩
                  · rw [cm_un e, q2 x e, r2 x e]
                    have := hvY x hx
                    refine ⟨this.1, this.2.1, fun z => ⟨(this.2.2 z).1, fun i hi => ?_⟩⟩
                    have h4 := (this.2.2 z).1
                    rw [he2 _ (by omega)]
                    exact (this.2.2 z).2 i hi
              · exact absurd (hok j hj) (by omega)
            · exact br_f h0 (br_t b8 (br_f b8' (br_f a15 (br_f hneg (br_t c4 ⟨a + 1, sy_57 h16 (by omega) a4 (fun hok => absurd (hok j hj) (by omega)) (fun _ _ _ => ⟨rfl, I2⟩) (a + 1) 0 (by omega) (Nat.zero_le _) (fun j z => absurd z (Nat.not_lt_zero _))⟩)))))
          · have c4 : ¬ nI a ≤ 4 := nI_ge (a := 4) (by omega) ha
            exact br_f c4 (br_f h0 (br_t b8 (br_f b8' (br_f a15 (br_f hneg (br_f c4 ⟨rfl, I2⟩))))))
    · have a16 : (16 : Int32) ≤ nI w := nI_le (a := 16) (by omega) hw
      have a15 : (15 : Int32) < nI w := nI_lt (a := 15) (by omega) hw
      exact br_t a16 (br_f h0 (br_t (nI_le (a := 8) (by omega) hw) (br_f (nI_nlt (b := 8) (by omega) hw) (br_t a15 ⟨rfl, I2⟩))))
end
