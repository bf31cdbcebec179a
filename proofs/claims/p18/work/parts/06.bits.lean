/-! 06: sets of variables as bits; ints that are small naturals -/
theorem vz_or (a b : Nat) : nI a ||| nI b = nI (a ||| b) := by
  apply Int32.toBitVec_inj.1
  show BitVec.ofNat 32 a ||| BitVec.ofNat 32 b = BitVec.ofNat 32 (a ||| b)
  apply BitVec.eq_of_getLsbD_eq
  intro i hi
  simp [hi]
theorem vz_cnt : ∀ v, v < 32 → ((nI v &&& 31).toBitVec.smod 32).toNat = v := by decide +kernel
theorem vz_one {v : Nat} (h : v < 16) : (1 : Int32) <<< (nI v &&& 31) = nI (2 ^ v) := by
  have := pk_shlN (n := 1) (nI v &&& 31) v (vz_cnt v (by omega)) (by
    rw [Nat.one_mul]
    exact Nat.pow_lt_pow_right (by decide) (by omega))
  rw [Nat.one_mul] at this
  exact this
theorem vz_bit {k v : Nat} (hk : k < 65536) (hv : v < 16) : (nI k >>> (nI v &&& 31)) &&& 1 = nI (k / 2 ^ v % 2) := by
  rw [pk_shrN (by omega) (nI v &&& 31) v (vz_cnt v (by omega))]
  have h2 : k / 2 ^ v ≤ k := Nat.div_le_self _ _
  exact pk_andN (by omega) 1 rfl
theorem vz_tb (k v : Nat) : k / 2 ^ v % 2 = if k.testBit v = true then 1 else 0 := by
  rw [Nat.testBit_eq_decide_div_mod_eq]
  by_cases h : k / 2 ^ v % 2 = 1
  · rw [if_pos (decide_eq_true h), h]
  · rw [if_neg (by rw [decide_eq_true_eq]; exact h)]
    omega
/-- k is the set of the variables that p holds of -/
def vz_S (k : Nat) (p : Nat → Prop) : Prop := k < 65536 ∧ ∀ v, v < 16 → (k.testBit v = true ↔ p v)
theorem vz_S_0 : vz_S 0 (fun _ => False) := ⟨by decide, fun v _ => by rw [Nat.zero_testBit]; exact ⟨fun h => (nomatch h), fun h => h.elim⟩⟩
theorem vz_S_or {a b : Nat} {p q : Nat → Prop} (ha : vz_S a p) (hb : vz_S b q) : vz_S (a ||| b) (fun v => p v ∨ q v) := by
  refine ⟨Nat.or_lt_two_pow (n := 16) ha.1 hb.1, fun v hv => ?_⟩
  rw [Nat.testBit_or, Bool.or_eq_true, ha.2 v hv, hb.2 v hv]
theorem vz_S_one {u : Nat} (h : u < 16) : vz_S (2 ^ u) (fun v => v = u) := by
  refine ⟨(Nat.pow_lt_pow_right (by decide) h : 2 ^ u < 2 ^ 16), fun v hv => ?_⟩
  rw [Nat.testBit_two_pow, decide_eq_true_eq]
  exact ⟨fun e => e.symm, fun e => e.symm⟩
theorem vz_S_iff {a : Nat} {p q : Nat → Prop} (h : ∀ v, v < 16 → (p v ↔ q v)) (ha : vz_S a p) : vz_S a q := ⟨ha.1, fun v hv => (ha.2 v hv).trans (h v hv)⟩
theorem vz_S_bit {k v : Nat} {p : Nat → Prop} (h : vz_S k p) (hv : v < 16) : ((nI k >>> (nI v &&& 31)) &&& 1 = 0 ↔ ¬ p v) ∧ ((nI k >>> (nI v &&& 31)) &&& 1 = 1 ↔ p v) := by
  rw [vz_bit h.1 hv, vz_tb]
  by_cases hp : k.testBit v = true
  · rw [if_pos hp]
    have := (h.2 v hv).mp hp
    exact ⟨⟨fun z => absurd z (by decide), fun z => absurd this z⟩, ⟨fun _ => this, fun _ => rfl⟩⟩
  · rw [if_neg hp]
    have : ¬ p v := fun z => hp ((h.2 v hv).mpr z)
    exact ⟨⟨fun _ => this, fun _ => rfl⟩, ⟨fun z => absurd z (by decide), fun z => absurd z this⟩⟩
theorem vz_not (b : Nat) (hb : b < 65536) (i : Nat) (hi : i < 32) : (nI b ^^^ (-1)).toBitVec.getLsbD i = !(b.testBit i) := by
  show (BitVec.ofNat 32 b ^^^ (-1#32)).getLsbD i = _
  rw [BitVec.getLsbD_xor, BitVec.getLsbD_ofNat, show (-1#32 : BitVec 32) = BitVec.allOnes 32 from rfl, BitVec.getLsbD_allOnes]
  simp [hi]
theorem vz_diff {a b : Nat} {p q : Nat → Prop} (ha : vz_S a p) (hb : vz_S b q) : nI a &&& (nI b ^^^ (-1)) = 0 ↔ ∀ v, v < 16 → p v → q v := by
  constructor
  · intro h v hv hp
    have h1 : (nI a &&& (nI b ^^^ (-1))).toBitVec.getLsbD v = false := by
      rw [h]
      exact BitVec.getLsbD_zero
    rw [Int32.toBitVec_and, BitVec.getLsbD_and, vz_not b hb.1 v (by omega)] at h1
    have h2 : (nI a).toBitVec.getLsbD v = true := by
      show (BitVec.ofNat 32 a).getLsbD v = true
      rw [BitVec.getLsbD_ofNat, (ha.2 v hv).mpr hp]
      simp
      omega
    rw [h2, Bool.true_and] at h1
    apply (hb.2 v hv).mp
    cases e : b.testBit v with
    | true => rfl
    | false => rw [e] at h1; cases h1
  · intro h
    apply Int32.toBitVec_inj.1
    apply BitVec.eq_of_getLsbD_eq
    intro i hi
    rw [Int32.toBitVec_and, BitVec.getLsbD_and, vz_not b hb.1 i hi]
    show ((BitVec.ofNat 32 a).getLsbD i && !b.testBit i) = (0#32).getLsbD i
    rw [BitVec.getLsbD_ofNat, BitVec.getLsbD_zero]
    by_cases hi16 : i < 16
    · cases e : a.testBit i with
      | false => simp
      | true =>
        rw [(hb.2 i hi16).mpr (h i hi16 ((ha.2 i hi16).mp e))]
        simp
    · rw [Nat.testBit_lt_two_pow (Nat.lt_of_lt_of_le ha.1 (Nat.pow_le_pow_right (n := 2) (i := 16) (by decide) (by omega)))]
      simp
