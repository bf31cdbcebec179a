/-! 05: the signature; values as texts: pure -/
def tm_sg (n : Nat) (A : Nat → List Nat) (Z : Nat → Nat) : tm_G := fun c =>
  if c = 90 then some ([], 0) else if c = 83 then some ([0], 0) else if c = 78 then some ([], 1) else if c = 67 then some ([0, 1], 1)
  else if 97 ≤ c ∧ c ≤ 104 then some ([], 0) else if 112 ≤ c ∧ c ≤ 119 then some ([], 1)
  else if 70 ≤ c ∧ c < 70 + n then some (A (c - 70), Z (c - 70)) else none
def tm_SG (n : Nat) (A : Nat → List Nat) (Z : Nat → Nat) : Prop := n ≤ 8 ∧ ∀ f, f < n → 1 ≤ (A f).length ∧ (A f).length ≤ 3 ∧ so_B (A f) ∧ Z f < 2
theorem tm_sg_90 {n : Nat} {A : Nat → List Nat} {Z : Nat → Nat} : tm_sg n A Z 90 = some ([], 0) := rfl
theorem tm_sg_83 {n : Nat} {A : Nat → List Nat} {Z : Nat → Nat} : tm_sg n A Z 83 = some ([0], 0) := rfl
theorem tm_sg_78 {n : Nat} {A : Nat → List Nat} {Z : Nat → Nat} : tm_sg n A Z 78 = some ([], 1) := rfl
theorem tm_sg_67 {n : Nat} {A : Nat → List Nat} {Z : Nat → Nat} : tm_sg n A Z 67 = some ([0, 1], 1) := rfl
theorem tm_sg_n {n : Nat} {A : Nat → List Nat} {Z : Nat → Nat} {c : Nat} (h : 97 ≤ c ∧ c ≤ 104) : tm_sg n A Z c = some ([], 0) := by
  unfold tm_sg
  rw [if_neg (by omega), if_neg (by omega), if_neg (by omega), if_neg (by omega), if_pos h]
theorem tm_sg_l {n : Nat} {A : Nat → List Nat} {Z : Nat → Nat} {c : Nat} (h : 112 ≤ c ∧ c ≤ 119) : tm_sg n A Z c = some ([], 1) := by
  unfold tm_sg
  rw [if_neg (by omega), if_neg (by omega), if_neg (by omega), if_neg (by omega), if_neg (by omega), if_pos h]
theorem tm_sg_f {n : Nat} {A : Nat → List Nat} {Z : Nat → Nat} {f : Nat} (h : f < n) (hn : n ≤ 8) : tm_sg n A Z (70 + f) = some (A f, Z f) := by
  unfold tm_sg
  rw [if_neg (by omega), if_neg (by omega), if_neg (by omega), if_neg (by omega), if_neg (by omega), if_neg (by omega), if_pos (by omega), show 70 + f - 70 = f by omega]
theorem tm_sg_o {n : Nat} {A : Nat → List Nat} {Z : Nat → Nat} {c : Nat} (h : c ≠ 90 ∧ c ≠ 83 ∧ c ≠ 78 ∧ c ≠ 67) (h1 : ¬ (97 ≤ c ∧ c ≤ 104)) (h2 : ¬ (112 ≤ c ∧ c ≤ 119)) (h3 : ¬ (70 ≤ c ∧ c < 70 + n)) : tm_sg n A Z c = none := by
  unfold tm_sg
  rw [if_neg h.1, if_neg h.2.1, if_neg h.2.2.1, if_neg h.2.2.2, if_neg h1, if_neg h2, if_neg h3]
/-- the seven cases of a code -/
theorem tm_sg_c (n : Nat) (A : Nat → List Nat) (Z : Nat → Nat) (c : Nat) (hn : n ≤ 8) : (c = 90 ∧ tm_sg n A Z c = some ([], 0)) ∨ (c = 83 ∧ tm_sg n A Z c = some ([0], 0)) ∨ (c = 78 ∧ tm_sg n A Z c = some ([], 1)) ∨ (c = 67 ∧ tm_sg n A Z c = some ([0, 1], 1)) ∨ ((97 ≤ c ∧ c ≤ 104) ∧ tm_sg n A Z c = some ([], 0)) ∨ ((112 ≤ c ∧ c ≤ 119) ∧ tm_sg n A Z c = some ([], 1)) ∨ (∃ f, f < n ∧ c = 70 + f ∧ tm_sg n A Z c = some (A f, Z f)) ∨ (tm_sg n A Z c = none ∧ ¬ (70 ≤ c ∧ c < 70 + n) ∧ tm_vn c = none ∧ tm_kd c = none) := by
  by_cases h1 : c = 90
  · exact Or.inl ⟨h1, by rw [h1]; rfl⟩
  by_cases h2 : c = 83
  · exact Or.inr (Or.inl ⟨h2, by rw [h2]; rfl⟩)
  by_cases h3 : c = 78
  · exact Or.inr (Or.inr (Or.inl ⟨h3, by rw [h3]; rfl⟩))
  by_cases h4 : c = 67
  · exact Or.inr (Or.inr (Or.inr (Or.inl ⟨h4, by rw [h4]; rfl⟩)))
  by_cases h5 : 97 ≤ c ∧ c ≤ 104
  · exact Or.inr (Or.inr (Or.inr (Or.inr (Or.inl ⟨h5, tm_sg_n h5⟩))))
  by_cases h6 : 112 ≤ c ∧ c ≤ 119
  · exact Or.inr (Or.inr (Or.inr (Or.inr (Or.inr (Or.inl ⟨h6, tm_sg_l h6⟩)))))
  by_cases h7 : 70 ≤ c ∧ c < 70 + n
  · refine Or.inr (Or.inr (Or.inr (Or.inr (Or.inr (Or.inr (Or.inl ⟨c - 70, by omega, by omega, ?_⟩))))))
    have := tm_sg_f (n := n) (A := A) (Z := Z) (f := c - 70) (by omega) hn
    rwa [show 70 + (c - 70) = c by omega] at this
  · refine Or.inr (Or.inr (Or.inr (Or.inr (Or.inr (Or.inr (Or.inr ⟨tm_sg_o ⟨h1, h2, h3, h4⟩ h5 h6 h7, h7, ?_, ?_⟩))))))
    · unfold tm_vn
      rw [if_neg h5, if_neg h6]
    · unfold tm_kd
      rw [if_neg (by omega), if_neg (by omega)]
theorem tm_sg_b {n : Nat} {A : Nat → List Nat} {Z : Nat → Nat} (hS : tm_SG n A Z) {c s : Nat} {a : List Nat} (h : tm_sg n A Z c = some (a, s)) : a.length ≤ 3 ∧ so_B a ∧ s < 2 ∧ 67 ≤ c ∧ c ≤ 119 := by
  have key : ∀ (a0 : List Nat) (s0 : Nat), tm_sg n A Z c = some (a0, s0) → a0.length ≤ 3 → so_B a0 → s0 < 2 → 67 ≤ c → c ≤ 119 → a.length ≤ 3 ∧ so_B a ∧ s < 2 ∧ 67 ≤ c ∧ c ≤ 119 := by
    intro a0 s0 e h1 h2 h3 h4 h5
    rw [h] at e
    obtain ⟨rfl, rfl⟩ := Prod.mk.inj (Option.some.inj e)
    exact ⟨h1, h2, h3, h4, h5⟩
  have b0 : so_B [] := fun x hx => nomatch hx
  have b1 : so_B [0] := so_B_mk (by decide) b0
  have b2 : so_B [0, 1] := so_B_mk (by decide) (so_B_mk (by decide) b0)
  rcases tm_sg_c n A Z c hS.1 with ⟨e, q⟩ | ⟨e, q⟩ | ⟨e, q⟩ | ⟨e, q⟩ | ⟨e, q⟩ | ⟨e, q⟩ | ⟨f, hf, e, q⟩ | ⟨q, _⟩
  · exact key _ _ q (by decide) b0 (by decide) (by omega) (by omega)
  · exact key _ _ q (by decide) b1 (by decide) (by omega) (by omega)
  · exact key _ _ q (by decide) b0 (by decide) (by omega) (by omega)
  · exact key _ _ q (by decide) b2 (by decide) (by omega) (by omega)
  · exact key _ _ q (by decide) b0 (by decide) (by omega) (by omega)
  · exact key _ _ q (by decide) b0 (by decide) (by omega) (by omega)
  · have hn := hS.1
    obtain ⟨_, h1, h2, h3⟩ := hS.2 f hf
    exact key _ _ q h1 h2 h3 (by omega) (by omega)
  · rw [h] at q
    cases q
theorem tm_sg_V {n : Nat} {A : Nat → List Nat} {Z : Nat → Nat} {c v : Nat} (h : tm_vn c = some v) : tm_sg n A Z c = some ([], if v < 8 then 0 else 1) := by
  obtain ⟨e, hv⟩ := tm_vn_ch h
  subst e
  unfold tm_vc
  by_cases h8 : v < 8
  · rw [if_pos h8, if_pos h8]
    exact tm_sg_n (by omega)
  · rw [if_neg h8, if_neg h8]
    exact tm_sg_l (by omega)
theorem tm_sg_GS {n : Nat} {A : Nat → List Nat} {Z : Nat → Nat} (hS : tm_SG n A Z) : tm_GS (tm_sg n A Z) := by
  refine ⟨fun c v h => ⟨_, tm_sg_V h⟩, ?_, ?_⟩
  · intro c d k a a' s hc hd h1 h2
    rcases tm_kd_c hc with ⟨k0, e | e⟩ | ⟨k0, e | e⟩ <;> rcases tm_kd_c hd with ⟨k1, e' | e'⟩ | ⟨k1, e' | e'⟩ <;> subst e <;> subst e' <;> first
      | rfl
      | (exfalso; omega)
      | (exfalso
         first
           | rw [tm_sg_90] at h1
           | rw [tm_sg_78] at h1
           | rw [tm_sg_83] at h1
           | rw [tm_sg_67] at h1
         first
           | rw [tm_sg_90] at h2
           | rw [tm_sg_78] at h2
           | rw [tm_sg_83] at h2
           | rw [tm_sg_67] at h2
         have e1 := (Prod.mk.inj (Option.some.inj h1)).2
         have e2 := (Prod.mk.inj (Option.some.inj h2)).2
         omega)
  · intro c a s hf h
    have hn := hS.1
    rcases tm_sg_c n A Z c hS.1 with ⟨e, q⟩ | ⟨e, q⟩ | ⟨e, q⟩ | ⟨e, q⟩ | ⟨e, q⟩ | ⟨e, q⟩ | ⟨f, hf, e, q⟩ | ⟨q, _⟩
    · omega
    · omega
    · omega
    · omega
    · omega
    · omega
    · rw [h] at q
      obtain ⟨rfl, _⟩ := Prod.mk.inj (Option.some.inj q)
      intro z
      have := (hS.2 f hf).1
      rw [z] at this
      exact absurd this (by decide)
    · rw [h] at q
      cases q
theorem tm_sg_mono {n n' : Nat} {A A' : Nat → List Nat} {Z Z' : Nat → Nat} (hn : n ≤ n') (hn' : n' ≤ 8) (hA : ∀ f, f < n → A' f = A f ∧ Z' f = Z f) : ∀ c p, tm_sg n A Z c = some p → tm_sg n' A' Z' c = some p := by
  intro c p h
  rcases tm_sg_c n A Z c (by omega) with ⟨e, q⟩ | ⟨e, q⟩ | ⟨e, q⟩ | ⟨e, q⟩ | ⟨e, q⟩ | ⟨e, q⟩ | ⟨f, hf, e, q⟩ | ⟨q, _⟩ <;> rw [h] at q
  · rw [q, e]; rfl
  · rw [q, e]; rfl
  · rw [q, e]; rfl
  · rw [q, e]; rfl
  · rw [q]; exact tm_sg_n e
  · rw [q]; exact tm_sg_l e
  · rw [q, e, tm_sg_f (by omega) hn', (hA f hf).1, (hA f hf).2]
  · cases q
/-! values -/
def tm_nu (k : Nat) : List Nat := List.replicate k 83 ++ [90]
def tm_el (e : Nat → Nat) : Nat → List Nat
  | 0 => []
  | k + 1 => tm_el e k ++ (67 :: tm_nu (e k))
def tm_vl (val : Nat → Nat) (el : Nat → Nat → Nat) (v : Nat) : List Nat := if v < 8 then tm_nu (val v) else tm_el (el v) (val v) ++ [78]
theorem tm_nu_P {n : Nat} {A : Nat → List Nat} {Z : Nat → Nat} (k : Nat) : tm_P (tm_sg n A Z) [0] (tm_nu k) := by
  induction k with
  | zero => exact ⟨[], 0, [], rfl, rfl, rfl⟩
  | succ k ih => exact ⟨[0], 0, [], rfl, rfl, ih⟩
theorem tm_el_P {n : Nat} {A : Nat → List Nat} {Z : Nat → Nat} (e : Nat → Nat) (k : Nat) : ∀ u, tm_P (tm_sg n A Z) [1] u → tm_P (tm_sg n A Z) [1] (tm_el e k ++ u) := by
  induction k with
  | zero => exact fun u h => h
  | succ k ih =>
    intro u h
    show tm_P (tm_sg n A Z) [1] ((tm_el e k ++ (67 :: tm_nu (e k))) ++ u)
    rw [List.append_assoc]
    apply ih
    exact ⟨[0, 1], 1, [], rfl, rfl, tm_P_app h _ [0] (tm_nu_P (e k))⟩
theorem tm_vl_P {n : Nat} {A : Nat → List Nat} {Z : Nat → Nat} (val : Nat → Nat) (el : Nat → Nat → Nat) (v : Nat) : tm_P (tm_sg n A Z) [if v < 8 then 0 else 1] (tm_vl val el v) := by
  unfold tm_vl
  by_cases h : v < 8
  · rw [if_pos h, if_pos h]
    exact tm_nu_P _
  · rw [if_neg h, if_neg h]
    exact tm_el_P _ _ _ ⟨[], 1, [], rfl, rfl, rfl⟩
theorem tm_nu_mem {k c : Nat} (h : c ∈ tm_nu k) : c = 83 ∨ c = 90 := by
  rcases List.mem_append.mp h with h | h
  · exact Or.inl (List.eq_of_mem_replicate h)
  · exact Or.inr (List.mem_singleton.mp h)
theorem tm_el_mem {e : Nat → Nat} {c : Nat} (k : Nat) : c ∈ tm_el e k → c = 83 ∨ c = 90 ∨ c = 67 := by
  induction k with
  | zero => exact fun h => nomatch h
  | succ k ih =>
    intro h
    rcases List.mem_append.mp h with h | h
    · exact ih h
    · rcases List.mem_cons.mp h with h | h
      · exact Or.inr (Or.inr h)
      · rcases tm_nu_mem h with h | h
        · exact Or.inl h
        · exact Or.inr (Or.inl h)
theorem tm_vl_mem {val : Nat → Nat} {el : Nat → Nat → Nat} {v c : Nat} (h : c ∈ tm_vl val el v) : c = 83 ∨ c = 90 ∨ c = 67 ∨ c = 78 := by
  unfold tm_vl at h
  by_cases h8 : v < 8
  · rw [if_pos h8] at h
    rcases tm_nu_mem h with h | h <;> omega
  · rw [if_neg h8] at h
    rcases List.mem_append.mp h with h | h
    · rcases tm_el_mem _ h with h | h | h <;> omega
    · have := List.mem_singleton.mp h
      omega
theorem tm_vl_pos (val : Nat → Nat) (el : Nat → Nat → Nat) (v : Nat) : 1 ≤ (tm_vl val el v).length := by
  have h := tm_vl_P (n := 0) (A := fun _ => []) (Z := fun _ => 0) val el v
  exact tm_P_ne h
/-- one symbol's text, the variables below k replaced -/
def tm_g1 (val : Nat → Nat) (el : Nat → Nat → Nat) (k c : Nat) : List Nat := match tm_vn c with
  | some v => if v < k then tm_vl val el v else [c]
  | none => [c]
def tm_gk (val : Nat → Nat) (el : Nat → Nat → Nat) (k : Nat) (w : List Nat) : List Nat := w.flatMap (tm_g1 val el k)
theorem tm_g1_n {val : Nat → Nat} {el : Nat → Nat → Nat} {k c : Nat} (h : tm_vn c = none) : tm_g1 val el k c = [c] := by
  unfold tm_g1
  rw [h]
theorem tm_g1_v {val : Nat → Nat} {el : Nat → Nat → Nat} {k c v : Nat} (h : tm_vn c = some v) (hk : v < k) : tm_g1 val el k c = tm_vl val el v := by
  unfold tm_g1
  rw [h]
  exact if_pos hk
theorem tm_g1_o {val : Nat → Nat} {el : Nat → Nat → Nat} {k c v : Nat} (h : tm_vn c = some v) (hk : ¬ v < k) : tm_g1 val el k c = [c] := by
  unfold tm_g1
  rw [h]
  exact if_neg hk
theorem tm_gk_0 (val : Nat → Nat) (el : Nat → Nat → Nat) (w : List Nat) : tm_gk val el 0 w = w := by
  induction w with
  | nil => rfl
  | cons c w ih =>
    show tm_g1 val el 0 c ++ tm_gk val el 0 w = c :: w
    rw [ih]
    cases h : tm_vn c with
    | none => rw [tm_g1_n h]; rfl
    | some v => rw [tm_g1_o h (Nat.not_lt_zero _)]; rfl
theorem tm_fm_id {f : Nat → List Nat} (w : List Nat) : (∀ c, c ∈ w → f c = [c]) → w.flatMap f = w := by
  induction w with
  | nil => exact fun _ => rfl
  | cons c w ih =>
    intro h
    rw [List.flatMap_cons, h c List.mem_cons_self, ih (fun d hd => h d (List.mem_cons_of_mem _ hd))]
    rfl
theorem tm_gk_s (val : Nat → Nat) (el : Nat → Nat → Nat) {k : Nat} (hk : k < 16) (w : List Nat) : (tm_gk val el k w).flatMap (fun c => if c = tm_vc k then tm_vl val el k else [c]) = tm_gk val el (k + 1) w := by
  induction w with
  | nil => rfl
  | cons c w ih =>
    show (tm_g1 val el k c ++ tm_gk val el k w).flatMap _ = tm_g1 val el (k + 1) c ++ tm_gk val el (k + 1) w
    rw [List.flatMap_append, ih]
    congr 1
    have hvk := tm_vn_vc hk
    cases h : tm_vn c with
    | none =>
      rw [tm_g1_n h, tm_g1_n h]
      apply tm_fm_id
      intro d hd
      rw [List.mem_singleton.mp hd, if_neg]
      intro e
      rw [e, hvk] at h
      cases h
    | some v =>
      by_cases h1 : v < k
      · rw [tm_g1_v h h1, tm_g1_v h (by omega)]
        apply tm_fm_id
        intro d hd
        have hm := tm_vl_mem hd
        rw [if_neg]
        unfold tm_vc
        split <;> omega
      · rw [tm_g1_o h h1]
        by_cases h2 : v = k
        · subst h2
          rw [tm_g1_v h (by omega), List.flatMap_singleton, if_pos (tm_vn_ch h).1]
        · rw [tm_g1_o h (by omega), List.flatMap_singleton, if_neg]
          intro e
          rw [e, hvk] at h
          exact h2 (Option.some.inj h).symm
theorem tm_fm_le {f : Nat → List Nat} (hf : ∀ c, 1 ≤ (f c).length) (w : List Nat) : w.length ≤ (w.flatMap f).length := by
  induction w with
  | nil => exact Nat.zero_le _
  | cons c w ih =>
    rw [List.flatMap_cons, List.length_append, List.length_cons]
    have := hf c
    omega
theorem tm_gk_le (val : Nat → Nat) (el : Nat → Nat → Nat) {k : Nat} (hk : k < 16) (w : List Nat) : (tm_gk val el k w).length ≤ (tm_gk val el (k + 1) w).length := by
  rw [← tm_gk_s val el hk w]
  apply tm_fm_le
  intro c
  by_cases h : c = tm_vc k
  · rw [if_pos h]
    exact tm_vl_pos _ _ _
  · rw [if_neg h]
    exact Nat.le_refl _
theorem tm_gk_mem {val : Nat → Nat} {el : Nat → Nat → Nat} {k c : Nat} (w : List Nat) : c ∈ tm_gk val el k w → c ∈ w ∨ c = 83 ∨ c = 90 ∨ c = 67 ∨ c = 78 := by
  induction w with
  | nil => exact fun h => Or.inl h
  | cons d w ih =>
    intro h
    have h' : c ∈ tm_g1 val el k d ++ tm_gk val el k w := h
    rcases List.mem_append.mp h' with h1 | h1
    · cases hv : tm_vn d with
      | none =>
        rw [tm_g1_n hv] at h1
        rw [List.mem_singleton.mp h1]
        exact Or.inl List.mem_cons_self
      | some v =>
        by_cases hk : v < k
        · rw [tm_g1_v hv hk] at h1
          exact Or.inr (tm_vl_mem h1)
        · rw [tm_g1_o hv hk] at h1
          rw [List.mem_singleton.mp h1]
          exact Or.inl List.mem_cons_self
    · rcases ih h1 with h2 | h2
      · exact Or.inl (List.mem_cons_of_mem _ h2)
      · exact Or.inr h2
theorem tm_gk_P {n : Nat} {A : Nat → List Nat} {Z : Nat → Nat} {val : Nat → Nat} {el : Nat → Nat → Nat} {k : Nat} (w : List Nat) : ∀ S, tm_P (tm_sg n A Z) S w → tm_P (tm_sg n A Z) S (tm_gk val el k w) := by
  induction w with
  | nil => exact fun S h => h
  | cons c w ih =>
    intro S h
    obtain ⟨a, s, S', hg, rfl, hP⟩ := h
    have hi := ih _ hP
    show tm_P (tm_sg n A Z) (s :: S') (tm_g1 val el k c ++ tm_gk val el k w)
    have hc : ∀ (h : tm_g1 val el k c = [c]), tm_P (tm_sg n A Z) (s :: S') (tm_g1 val el k c ++ tm_gk val el k w) := by
      intro h
      rw [h]
      exact ⟨a, s, S', hg, rfl, hi⟩
    cases hv : tm_vn c with
    | none => exact hc (tm_g1_n hv)
    | some v =>
      by_cases hk : v < k
      · rw [tm_g1_v hv hk]
        rw [tm_sg_V hv] at hg
        obtain ⟨rfl, rfl⟩ := Prod.mk.inj (Option.some.inj hg)
        exact tm_P_app hi _ [if v < 8 then 0 else 1] (tm_vl_P val el v)
      · exact hc (tm_g1_o hv hk)
