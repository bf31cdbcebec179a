/-! 02: matching, filled patterns, REPLACE: pure -/
def tm_vn (c : Nat) : Option Nat := if 97 ≤ c ∧ c ≤ 104 then some (c - 97) else if 112 ≤ c ∧ c ≤ 119 then some (c - 104) else none
def tm_vc (v : Nat) : Nat := if v < 8 then 97 + v else 104 + v
theorem tm_vn_ch {c v : Nat} (h : tm_vn c = some v) : c = tm_vc v ∧ v < 16 := by
  unfold tm_vn at h
  split at h
  · have := Option.some.inj h
    unfold tm_vc
    rw [if_pos (by omega)]
    omega
  · split at h
    · have := Option.some.inj h
      unfold tm_vc
      rw [if_neg (by omega)]
      omega
    · cases h
theorem tm_vn_vc {v : Nat} (h : v < 16) : tm_vn (tm_vc v) = some v := by
  unfold tm_vn tm_vc
  by_cases h8 : v < 8
  · rw [if_pos h8, if_pos (by omega)]
    exact congrArg some (by omega)
  · rw [if_neg h8, if_neg (by omega), if_pos (by omega)]
    exact congrArg some (by omega)
theorem tm_vn_inj {c d v : Nat} (h : tm_vn c = some v) (h2 : tm_vn d = some v) : c = d := by
  rw [(tm_vn_ch h).1, (tm_vn_ch h2).1]
def tm_bu (b : Nat → Option Nat) (v q : Nat) : Nat → Option Nat := fun i => if i = v then some q else b i
def tm_mt (g : tm_G) (pat : Bool) (w : List Nat) : List Nat → Nat → (Nat → Option Nat) → Option (Nat × (Nat → Option Nat))
  | [], q, b => some (q, b)
  | c :: p, q, b =>
    if q < w.length then
      match (if pat = true then tm_vn c else none) with
      | some v => match b v with
        | none => tm_mt g pat w p (tm_e g w q) (tm_bu b v q)
        | some q0 => if tm_sub g w q0 = tm_sub g w q then tm_mt g pat w p (tm_e g w q) b else none
      | none => if tm_at w q = c then tm_mt g pat w p (q + 1) b else none
    else none
theorem tm_mt_nil {g : tm_G} {pat : Bool} {w : List Nat} {q : Nat} {b : Nat → Option Nat} : tm_mt g pat w [] q b = some (q, b) := by simp [tm_mt]
theorem tm_mt_out {g : tm_G} {pat : Bool} {w p : List Nat} {c q : Nat} {b : Nat → Option Nat} (h : w.length ≤ q) : tm_mt g pat w (c :: p) q b = none := by
  rw [tm_mt, if_neg (by omega)]
theorem tm_mt_new {g : tm_G} {w p : List Nat} {c q v : Nat} {b : Nat → Option Nat} (hq : q < w.length) (hv : tm_vn c = some v) (hb : b v = none) : tm_mt g true w (c :: p) q b = tm_mt g true w p (tm_e g w q) (tm_bu b v q) := by
  rw [tm_mt, if_pos hq, if_pos rfl, hv]
  dsimp only
  rw [hb]
theorem tm_mt_old {g : tm_G} {w p : List Nat} {c q v q0 : Nat} {b : Nat → Option Nat} (hq : q < w.length) (hv : tm_vn c = some v) (hb : b v = some q0) : tm_mt g true w (c :: p) q b = if tm_sub g w q0 = tm_sub g w q then tm_mt g true w p (tm_e g w q) b else none := by
  rw [tm_mt, if_pos hq, if_pos rfl, hv]
  dsimp only
  rw [hb]
theorem tm_mt_sel {pat : Bool} {c : Nat} (h : pat = false ∨ tm_vn c = none) : (if pat = true then tm_vn c else none) = none := by
  rcases h with h | h
  · rw [h, if_neg (by decide)]
  · rw [h]
    split <;> rfl
theorem tm_mt_sym {g : tm_G} {pat : Bool} {w p : List Nat} {c q : Nat} {b : Nat → Option Nat} (hq : q < w.length) (h : pat = false ∨ tm_vn c = none) : tm_mt g pat w (c :: p) q b = if tm_at w q = c then tm_mt g pat w p (q + 1) b else none := by
  rw [tm_mt, if_pos hq, tm_mt_sel h]
theorem tm_mt_inv {g : tm_G} {pat : Bool} {w p : List Nat} {c q : Nat} {b : Nat → Option Nat} {r : Nat × (Nat → Option Nat)} (h : tm_mt g pat w (c :: p) q b = some r) :
    q < w.length ∧ ((∃ v, pat = true ∧ tm_vn c = some v ∧ ((b v = none ∧ tm_mt g pat w p (tm_e g w q) (tm_bu b v q) = some r) ∨ (∃ q0, b v = some q0 ∧ tm_sub g w q0 = tm_sub g w q ∧ tm_mt g pat w p (tm_e g w q) b = some r))) ∨ ((pat = false ∨ tm_vn c = none) ∧ tm_at w q = c ∧ tm_mt g pat w p (q + 1) b = some r)) := by
  by_cases hq : q < w.length
  · refine ⟨hq, ?_⟩
    by_cases hs : pat = false ∨ tm_vn c = none
    · right
      rw [tm_mt_sym hq hs] at h
      by_cases hc : tm_at w q = c
      · rw [if_pos hc] at h
        exact ⟨hs, hc, h⟩
      · rw [if_neg hc] at h
        cases h
    · left
      have hp : pat = true := by
        cases pat with
        | false => exact absurd (Or.inl rfl) hs
        | true => rfl
      subst hp
      cases hv : tm_vn c with
      | none => exact absurd (Or.inr hv) hs
      | some v =>
        refine ⟨v, rfl, rfl, ?_⟩
        cases hb : b v with
        | none =>
          rw [tm_mt_new hq hv hb] at h
          exact Or.inl ⟨rfl, h⟩
        | some q0 =>
          rw [tm_mt_old hq hv hb] at h
          by_cases he : tm_sub g w q0 = tm_sub g w q
          · rw [if_pos he] at h
            exact Or.inr ⟨q0, rfl, he, h⟩
          · rw [if_neg he] at h
            cases h
  · rw [tm_mt_out (by omega)] at h
    cases h
def tm_V (g : tm_G) : Prop := ∀ c v, tm_vn c = some v → ∃ s, g c = some ([], s)
theorem tm_V_ar {g : tm_G} (hv : tm_V g) {c v : Nat} (h : tm_vn c = some v) : tm_ar g c = 0 := by
  obtain ⟨s, hs⟩ := hv c v h
  rw [tm_ar_some hs]
  rfl
theorem tm_mt_end {g : tm_G} {pat : Bool} {w : List Nat} (hv : tm_V g) (p : List Nat) : ∀ S q b r, tm_P g S p → tm_mt g pat w p q b = some r → r.1 = q + tm_en g S.length (w.drop q) := by
  induction p with
  | nil =>
    intro S q b r hP h
    have hS : S = [] := hP
    rw [tm_mt_nil] at h
    rw [← Option.some.inj h, hS, List.length_nil, tm_en_0]
    rfl
  | cons c p ih =>
    intro S q b r hP h
    obtain ⟨a, s, S', hg, rfl, hP'⟩ := hP
    obtain ⟨hq, hc⟩ := tm_mt_inv h
    rcases hc with ⟨v, _, hvc, hb⟩ | ⟨_, hat, hm⟩
    · obtain ⟨s2, hg2⟩ := hv c v hvc
      rw [hg] at hg2
      obtain ⟨rfl, rfl⟩ := Prod.mk.inj (Option.some.inj hg2)
      rw [List.nil_append] at hP'
      have hm : ∃ b2, tm_mt g pat w p (tm_e g w q) b2 = some r := by
        rcases hb with ⟨_, hm⟩ | ⟨_, _, _, hm⟩
        · exact ⟨_, hm⟩
        · exact ⟨_, hm⟩
      obtain ⟨b2, hm⟩ := hm
      rw [ih _ _ _ _ hP' hm, List.length_cons, Nat.add_comm S'.length 1, tm_en_add g (w.drop q) 1 S'.length, List.drop_drop]
      unfold tm_e
      omega
    · rw [ih _ _ _ _ hP' hm, List.length_cons, tm_drop_cons hq, hat, tm_en_s, tm_ar_some hg, List.length_append]
      omega
theorem tm_mt_pos {g : tm_G} {pat : Bool} {w : List Nat} (p : List Nat) : ∀ q b r, (∀ v q0, b v = some q0 → q0 < w.length) → tm_mt g pat w p q b = some r → ∀ v q0, r.2 v = some q0 → q0 < w.length := by
  induction p with
  | nil =>
    intro q b r hb h
    rw [tm_mt_nil] at h
    rw [← Option.some.inj h]
    exact hb
  | cons c p ih =>
    intro q b r hb h
    obtain ⟨hq, hc⟩ := tm_mt_inv h
    rcases hc with ⟨v, _, hvc, ⟨_, hm⟩ | ⟨_, _, _, hm⟩⟩ | ⟨_, hat, hm⟩
    · refine ih _ _ _ ?_ hm
      intro v2 q0 h2
      unfold tm_bu at h2
      by_cases e : v2 = v
      · rw [if_pos e] at h2
        rw [← Option.some.inj h2]
        exact hq
      · rw [if_neg e] at h2
        exact hb _ _ h2
    · exact ih _ _ _ hb hm
    · exact ih _ _ _ hb hm
theorem tm_mt_fix {g : tm_G} {w : List Nat} (p : List Nat) : ∀ q b r, tm_mt g false w p q b = some r → r.2 = b := by
  induction p with
  | nil =>
    intro q b r h
    rw [tm_mt_nil] at h
    rw [← Option.some.inj h]
  | cons c p ih =>
    intro q b r h
    obtain ⟨hq, hc⟩ := tm_mt_inv h
    rcases hc with ⟨v, hp, _⟩ | ⟨_, hat, hm⟩
    · cases hp
    · exact ih _ _ _ hm
def tm_T (g : tm_G) (w : List Nat) (b : Nat → Option Nat) : Prop := ∀ c v q0, tm_vn c = some v → b v = some q0 → ∃ s, g c = some ([], s) ∧ tm_P g [s] (tm_sub g w q0)
theorem tm_T_none {g : tm_G} {w : List Nat} : tm_T g w (fun _ => none) := fun _ _ _ _ h => nomatch h
theorem tm_mt_ty {g : tm_G} {pat : Bool} {w : List Nat} (hv : tm_V g) (p : List Nat) : ∀ S S2 q b r, tm_P g S p → tm_P g (S ++ S2) (w.drop q) → tm_T g w b → tm_mt g pat w p q b = some r → tm_T g w r.2 := by
  induction p with
  | nil =>
    intro S S2 q b r hP hW hT h
    rw [tm_mt_nil] at h
    rw [← Option.some.inj h]
    exact hT
  | cons c p ih =>
    intro S S2 q b r hP hW hT h
    obtain ⟨a, s, S', hg, rfl, hP'⟩ := hP
    obtain ⟨hq, hc⟩ := tm_mt_inv h
    rw [List.cons_append] at hW
    rcases hc with ⟨v, _, hvc, hb⟩ | ⟨_, hat, hm⟩
    · obtain ⟨s2, hg2⟩ := hv c v hvc
      rw [hg] at hg2
      obtain ⟨rfl, rfl⟩ := Prod.mk.inj (Option.some.inj hg2)
      rw [List.nil_append] at hP'
      obtain ⟨hs, hr⟩ := tm_sub_P hW
      rcases hb with ⟨_, hm⟩ | ⟨_, _, _, hm⟩
      · refine ih _ _ _ _ _ hP' hr ?_ hm
        intro c2 v2 q0 hv2 h2
        unfold tm_bu at h2
        by_cases e : v2 = v
        · rw [if_pos e] at h2
          subst e
          rw [← Option.some.inj h2, tm_vn_inj hv2 hvc]
          exact ⟨s, hg, hs⟩
        · rw [if_neg e] at h2
          exact hT _ _ _ hv2 h2
      · exact ih _ _ _ _ _ hP' hr hT hm
    · rw [tm_drop_cons hq, hat] at hW
      obtain ⟨a2, s2, S3, hg2, hS, hP2⟩ := hW
      rw [hg] at hg2
      obtain ⟨rfl, rfl⟩ := Prod.mk.inj (Option.some.inj hg2)
      obtain ⟨_, rfl⟩ := List.cons.inj hS
      rw [← List.append_assoc] at hP2
      exact ih _ _ _ _ _ hP' hP2 hT hm
theorem tm_mt_vars {g : tm_G} {w : List Nat} (hv : tm_V g) (p : List Nat) : ∀ S S2 q b, (∀ c, c ∈ p → ∃ v, tm_vn c = some v ∧ b v = none) → p.Nodup → tm_P g S p → tm_P g (S ++ S2) (w.drop q) → ∃ r, tm_mt g true w p q b = some r := by
  induction p with
  | nil =>
    intro S S2 q b _ _ _ _
    exact ⟨_, tm_mt_nil⟩
  | cons c p ih =>
    intro S S2 q b hb hn hP hW
    obtain ⟨a, s, S', hg, rfl, hP'⟩ := hP
    rw [List.cons_append] at hW
    have hq : q < w.length := by
      have := tm_P_ne hW
      rw [List.length_drop] at this
      omega
    obtain ⟨v, hvc, hbv⟩ := hb c (List.mem_cons_self)
    obtain ⟨s2, hg2⟩ := hv c v hvc
    rw [hg] at hg2
    obtain ⟨rfl, rfl⟩ := Prod.mk.inj (Option.some.inj hg2)
    rw [List.nil_append] at hP'
    obtain ⟨hs, hr⟩ := tm_sub_P hW
    rw [tm_mt_new hq hvc hbv]
    obtain ⟨hn1, hn2⟩ := List.nodup_cons.mp hn
    refine ih _ _ _ _ ?_ hn2 hP' hr
    intro c2 h2
    obtain ⟨v2, hv2, hb2⟩ := hb c2 (List.mem_cons_of_mem _ h2)
    refine ⟨v2, hv2, ?_⟩
    unfold tm_bu
    rw [if_neg ?_]
    · exact hb2
    · intro e
      subst e
      rw [tm_vn_inj hv2 hvc] at h2
      exact hn1 h2
/-! filled patterns -/
def tm_i1 (g : tm_G) (w : List Nat) (b : Nat → Option Nat) (c : Nat) : List Nat := match tm_vn c with
  | some v => match b v with
    | some q => tm_sub g w q
    | none => [c]
  | none => [c]
theorem tm_i1_n {g : tm_G} {w : List Nat} {b : Nat → Option Nat} {c : Nat} (h : tm_vn c = none) : tm_i1 g w b c = [c] := by
  unfold tm_i1
  rw [h]
theorem tm_i1_u {g : tm_G} {w : List Nat} {b : Nat → Option Nat} {c v : Nat} (h : tm_vn c = some v) (hb : b v = none) : tm_i1 g w b c = [c] := by
  unfold tm_i1
  rw [h]
  dsimp only
  rw [hb]
theorem tm_i1_b {g : tm_G} {w : List Nat} {b : Nat → Option Nat} {c v q : Nat} (h : tm_vn c = some v) (hb : b v = some q) : tm_i1 g w b c = tm_sub g w q := by
  unfold tm_i1
  rw [h]
  dsimp only
  rw [hb]
theorem tm_i1_c (g : tm_G) (w : List Nat) (b : Nat → Option Nat) (c : Nat) : tm_i1 g w b c = [c] ∨ ∃ v q, tm_vn c = some v ∧ b v = some q ∧ tm_i1 g w b c = tm_sub g w q := by
  cases h : tm_vn c with
  | none => exact Or.inl (tm_i1_n h)
  | some v =>
    cases hb : b v with
    | none => exact Or.inl (tm_i1_u h hb)
    | some q => exact Or.inr ⟨v, q, rfl, hb, tm_i1_b h hb⟩
def tm_in (g : tm_G) (w : List Nat) (b : Nat → Option Nat) : List Nat → List Nat
  | [] => []
  | c :: p => tm_i1 g w b c ++ tm_in g w b p
theorem tm_in_ty {g : tm_G} {w : List Nat} {b : Nat → Option Nat} (hT : tm_T g w b) (p : List Nat) : ∀ S, tm_P g S p → tm_P g S (tm_in g w b p) := by
  induction p with
  | nil => exact fun S h => h
  | cons c p ih =>
    intro S h
    obtain ⟨a, s, S', hg, rfl, hP⟩ := h
    have hi := ih _ hP
    show tm_P g (s :: S') (tm_i1 g w b c ++ tm_in g w b p)
    rcases tm_i1_c g w b c with e | ⟨v, q, hv, hb, e⟩
    · rw [e]
      exact ⟨a, s, S', hg, rfl, hi⟩
    · obtain ⟨s2, hg2, hs⟩ := hT c v q hv hb
      rw [hg] at hg2
      obtain ⟨rfl, rfl⟩ := Prod.mk.inj (Option.some.inj hg2)
      rw [e]
      exact tm_P_app hi _ [s] hs
theorem tm_in_mem {g : tm_G} {w : List Nat} {b : Nat → Option Nat} {d : Nat} (p : List Nat) : d ∈ tm_in g w b p → d ∈ p ∨ d ∈ w := by
  induction p with
  | nil => exact fun h => Or.inl h
  | cons c p ih =>
    intro h
    have h' : d ∈ tm_i1 g w b c ++ tm_in g w b p := h
    rcases List.mem_append.mp h' with h1 | h1
    · rcases tm_i1_c g w b c with e | ⟨v, q, hv, hb, e⟩
      · rw [e] at h1
        rw [List.mem_singleton.mp h1]
        exact Or.inl (List.mem_cons_self)
      · rw [e] at h1
        exact Or.inr (tm_sub_mem h1)
    · rcases ih h1 with h2 | h2
      · exact Or.inl (List.mem_cons_of_mem _ h2)
      · exact Or.inr h2
theorem tm_in_none {g : tm_G} {w : List Nat} (p : List Nat) : tm_in g w (fun _ => none) p = p := by
  induction p with
  | nil => rfl
  | cons c p ih =>
    show tm_i1 g w (fun _ => none) c ++ tm_in g w (fun _ => none) p = c :: p
    rw [ih]
    cases h : tm_vn c with
    | none => rw [tm_i1_n h]; rfl
    | some v => rw [tm_i1_u h rfl]; rfl
/-! REPLACE from position i on: the number of hits and the text -/
def tm_rp (g : tm_G) (pat : Bool) (w fr to : List Nat) : Nat → Nat → Nat × List Nat
  | 0, _ => (0, [])
  | n + 1, i =>
    if i < w.length then
      match tm_mt g pat w fr i (fun _ => none) with
      | some r => ((tm_rp g pat w fr to n (tm_e g w i)).1 + 1, tm_in g w r.2 to ++ (tm_rp g pat w fr to n (tm_e g w i)).2)
      | none => ((tm_rp g pat w fr to n (i + 1)).1, tm_at w i :: (tm_rp g pat w fr to n (i + 1)).2)
    else (0, [])
theorem tm_rp_out {g : tm_G} {pat : Bool} {w fr to : List Nat} {n i : Nat} (h : w.length ≤ i) : tm_rp g pat w fr to n i = (0, []) := by
  cases n with
  | zero => rfl
  | succ n => rw [tm_rp, if_neg (by omega)]
theorem tm_rp_hit {g : tm_G} {pat : Bool} {w fr to : List Nat} {n i : Nat} {r : Nat × (Nat → Option Nat)} (h : i < w.length) (hm : tm_mt g pat w fr i (fun _ => none) = some r) : tm_rp g pat w fr to (n + 1) i = ((tm_rp g pat w fr to n (tm_e g w i)).1 + 1, tm_in g w r.2 to ++ (tm_rp g pat w fr to n (tm_e g w i)).2) := by
  rw [tm_rp, if_pos h, hm]
theorem tm_rp_miss {g : tm_G} {pat : Bool} {w fr to : List Nat} {n i : Nat} (h : i < w.length) (hm : tm_mt g pat w fr i (fun _ => none) = none) : tm_rp g pat w fr to (n + 1) i = ((tm_rp g pat w fr to n (i + 1)).1, tm_at w i :: (tm_rp g pat w fr to n (i + 1)).2) := by
  rw [tm_rp, if_pos h, hm]
theorem tm_rp_fuel {g : tm_G} {pat : Bool} {w fr to : List Nat} (n : Nat) : ∀ m i, w.length - i ≤ n → w.length - i ≤ m → tm_rp g pat w fr to n i = tm_rp g pat w fr to m i := by
  induction n with
  | zero =>
    intro m i h _
    rw [tm_rp_out (by omega), tm_rp_out (by omega)]
  | succ n ih =>
    intro m i h h2
    by_cases hi : i < w.length
    · cases m with
      | zero => omega
      | succ m =>
        have he := tm_e_gt g hi
        cases hm : tm_mt g pat w fr i (fun _ => none) with
        | some r => rw [tm_rp_hit hi hm, tm_rp_hit hi hm, ih m _ (by omega) (by omega)]
        | none => rw [tm_rp_miss hi hm, tm_rp_miss hi hm, ih m _ (by omega) (by omega)]
    · rw [tm_rp_out (by omega), tm_rp_out (by omega)]
def tm_R (g : tm_G) (pat : Bool) (w fr to : List Nat) (i : Nat) : Nat × List Nat := tm_rp g pat w fr to w.length i
theorem tm_R_out {g : tm_G} {pat : Bool} {w fr to : List Nat} {i : Nat} (h : w.length ≤ i) : tm_R g pat w fr to i = (0, []) := tm_rp_out h
theorem tm_R_hit {g : tm_G} {pat : Bool} {w fr to : List Nat} {i : Nat} {r : Nat × (Nat → Option Nat)} (h : i < w.length) (hm : tm_mt g pat w fr i (fun _ => none) = some r) : tm_R g pat w fr to i = ((tm_R g pat w fr to (tm_e g w i)).1 + 1, tm_in g w r.2 to ++ (tm_R g pat w fr to (tm_e g w i)).2) := by
  unfold tm_R
  have he := tm_e_gt g h
  rw [tm_rp_fuel w.length (w.length + 1) i (by omega) (by omega), tm_rp_hit h hm]
theorem tm_R_miss {g : tm_G} {pat : Bool} {w fr to : List Nat} {i : Nat} (h : i < w.length) (hm : tm_mt g pat w fr i (fun _ => none) = none) : tm_R g pat w fr to i = ((tm_R g pat w fr to (i + 1)).1, tm_at w i :: (tm_R g pat w fr to (i + 1)).2) := by
  unfold tm_R
  rw [tm_rp_fuel w.length (w.length + 1) i (by omega) (by omega), tm_rp_miss h hm]
theorem tm_R_cnt {g : tm_G} {pat : Bool} {w fr to : List Nat} : ∀ d i, w.length - i ≤ d → (tm_R g pat w fr to i).1 ≤ w.length - i := by
  intro d
  induction d with
  | zero =>
    intro i h
    rw [tm_R_out (by omega)]
    exact Nat.zero_le _
  | succ d ih =>
    intro i h
    by_cases hi : i < w.length
    · have he := tm_e_gt g hi
      cases hm : tm_mt g pat w fr i (fun _ => none) with
      | some r =>
        rw [tm_R_hit hi hm]
        have := ih (tm_e g w i) (by omega)
        dsimp only
        omega
      | none =>
        rw [tm_R_miss hi hm]
        have := ih (i + 1) (by omega)
        dsimp only
        omega
    · rw [tm_R_out (by omega)]
      exact Nat.zero_le _
theorem tm_R_len1 {g : tm_G} {w fr to : List Nat} (h1 : to.length = 1) : ∀ d i, w.length - i ≤ d → (tm_R g false w fr to i).2.length ≤ w.length - i := by
  intro d
  induction d with
  | zero =>
    intro i h
    rw [tm_R_out (by omega)]
    exact Nat.zero_le _
  | succ d ih =>
    intro i h
    by_cases hi : i < w.length
    · have he := tm_e_gt g hi
      cases hm : tm_mt g false w fr i (fun _ => none) with
      | some r =>
        rw [tm_R_hit hi hm, tm_mt_fix _ _ _ _ hm, tm_in_none]
        have := ih (tm_e g w i) (by omega)
        dsimp only
        rw [List.length_append]
        omega
      | none =>
        rw [tm_R_miss hi hm]
        have := ih (i + 1) (by omega)
        dsimp only
        rw [List.length_cons]
        omega
    · rw [tm_R_out (by omega)]
      exact Nat.zero_le _
theorem tm_R_mem {g : tm_G} {pat : Bool} {w fr to : List Nat} {c : Nat} : ∀ d i, w.length - i ≤ d → c ∈ (tm_R g pat w fr to i).2 → c ∈ to ∨ c ∈ w := by
  intro d
  induction d with
  | zero =>
    intro i h
    rw [tm_R_out (by omega)]
    exact fun h => nomatch h
  | succ d ih =>
    intro i h
    by_cases hi : i < w.length
    · have he := tm_e_gt g hi
      cases hm : tm_mt g pat w fr i (fun _ => none) with
      | some r =>
        rw [tm_R_hit hi hm]
        dsimp only
        intro hc
        rcases List.mem_append.mp hc with h1 | h1
        · exact tm_in_mem _ h1
        · exact ih (tm_e g w i) (by omega) h1
      | none =>
        rw [tm_R_miss hi hm]
        dsimp only
        intro hc
        rcases List.mem_cons.mp hc with h1 | h1
        · rw [h1]
          exact Or.inr (tm_at_mem hi)
        · exact ih (i + 1) (by omega) h1
    · rw [tm_R_out (by omega)]
      exact fun h => nomatch h
theorem tm_R_ty {g : tm_G} {pat : Bool} {w p0 to : List Nat} {c0 s : Nat} (hv : tm_V g) (hf : tm_P g [s] (c0 :: p0)) (ht : tm_P g [s] to) (hh : pat = false ∨ tm_vn c0 = none) : ∀ d i S, w.length - i ≤ d → tm_P g S (w.drop i) → tm_P g S (tm_R g pat w (c0 :: p0) to i).2 := by
  intro d
  induction d with
  | zero =>
    intro i S h hP
    rw [tm_R_out (by omega)]
    rw [List.drop_eq_nil_of_le (by omega)] at hP
    exact hP
  | succ d ih =>
    intro i S h hP
    by_cases hi : i < w.length
    · have he := tm_e_gt g hi
      have hP0 := hP
      rw [tm_drop_cons hi] at hP
      obtain ⟨a1, s1, S', hg1, rfl, hP1⟩ := hP
      cases hm : tm_mt g pat w (c0 :: p0) i (fun _ => none) with
      | some r =>
        rw [tm_R_hit hi hm]
        dsimp only
        obtain ⟨_, hc⟩ := tm_mt_inv hm
        have hat : tm_at w i = c0 := by
          rcases hc with ⟨v, hp, hvc, _⟩ | ⟨_, hat, _⟩
          · rcases hh with hh | hh
            · rw [hh] at hp; cases hp
            · rw [hh] at hvc; cases hvc
          · exact hat
        have hf' := hf
        obtain ⟨a, s2, S2, hg, hS, _⟩ := hf'
        obtain ⟨rfl, _⟩ := List.cons.inj hS
        rw [hat, hg] at hg1
        obtain ⟨rfl, rfl⟩ := Prod.mk.inj (Option.some.inj hg1)
        have hT := tm_mt_ty hv _ [s] S' i _ r hf hP0 tm_T_none hm
        have hr := (tm_sub_P hP0).2
        exact tm_P_app (ih _ _ (by omega) hr) _ [s] (tm_in_ty hT _ _ ht)
      | none =>
        rw [tm_R_miss hi hm]
        exact ⟨a1, s1, S', hg1, rfl, ih _ _ (by omega) hP1⟩
    · rw [tm_R_out (by omega)]
      rw [List.drop_eq_nil_of_le (by omega)] at hP
      exact hP
theorem tm_R_one {g : tm_G} {w to : List Nat} {v : Nat} (ha : tm_ar g v = 0) : ∀ d i, w.length - i ≤ d → (tm_R g false w [v] to i).2 = (w.drop i).flatMap (fun c => if c = v then to else [c]) := by
  intro d
  induction d with
  | zero =>
    intro i h
    rw [tm_R_out (by omega), List.drop_eq_nil_of_le (by omega)]
    rfl
  | succ d ih =>
    intro i h
    by_cases hi : i < w.length
    · rw [tm_drop_cons hi, List.flatMap_cons]
      by_cases hc : tm_at w i = v
      · have hm : tm_mt g false w [v] i (fun _ => none) = some (i + 1, fun _ => none) := by
          rw [tm_mt_sym hi (Or.inl rfl), if_pos hc, tm_mt_nil]
        rw [tm_R_hit hi hm, tm_in_none, if_pos hc]
        have he : tm_e g w i = i + 1 := by
          rw [tm_e_rec g hi, hc, ha, tm_en_0]
        rw [he, ih (i + 1) (by omega)]
      · have hm : tm_mt g false w [v] i (fun _ => none) = none := by
          rw [tm_mt_sym hi (Or.inl rfl), if_neg hc]
        rw [tm_R_miss hi hm, if_neg hc, ih (i + 1) (by omega)]
        rfl
    · rw [tm_R_out (by omega), List.drop_eq_nil_of_le (by omega)]
      rfl
