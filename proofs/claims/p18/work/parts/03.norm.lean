/-! 03: NORMALIZE: pure -/
def tm_kd (c : Nat) : Option Nat := if c = 90 ∨ c = 78 then some 0 else if c = 83 ∨ c = 67 then some 1 else none
abbrev tm_fn (c : Nat) : Prop := 70 ≤ c ∧ c ≤ 77
abbrev tm_rd (w : List Nat) (i : Nat) : Prop := tm_fn (tm_at w i) ∧ tm_kd (tm_at w (i + 1)) ≠ none
def tm_rx (w : List Nat) : Nat → Option Nat
  | 0 => none
  | i + 1 => if tm_rd w i then some i else tm_rx w i
def tm_ri (w : List Nat) (i : Nat) : Nat := 4 * (tm_at w i - 70) + 2 * (tm_kd (tm_at w (i + 1))).getD 0
def tm_st (g : tm_G) (R : Nat → List Nat) (w : List Nat) (i : Nat) : List Nat := match tm_mt g true w (R (tm_ri w i)) i (fun _ => none) with
  | some r => w.take i ++ (tm_in g w r.2 (R (tm_ri w i + 1)) ++ w.drop (tm_e g w i))
  | none => w
def tm_nz (g : tm_G) (R : Nat → List Nat) : Nat → List Nat → Option (List Nat)
  | 0, w => match tm_rx w w.length with
    | none => some w
    | some _ => none
  | n + 1, w => match tm_rx w w.length with
    | none => some w
    | some i => if (tm_st g R w i).length ≤ 48 then tm_nz g R n (tm_st g R w i) else none
theorem tm_nz_no {g : tm_G} {R : Nat → List Nat} {n : Nat} {w : List Nat} (h : tm_rx w w.length = none) : tm_nz g R n w = some w := by
  cases n with
  | zero => rw [tm_nz, h]
  | succ n => rw [tm_nz, h]
theorem tm_nz_0 {g : tm_G} {R : Nat → List Nat} {w : List Nat} {i : Nat} (h : tm_rx w w.length = some i) : tm_nz g R 0 w = none := by
  rw [tm_nz, h]
theorem tm_nz_s {g : tm_G} {R : Nat → List Nat} {n : Nat} {w : List Nat} {i : Nat} (h : tm_rx w w.length = some i) : tm_nz g R (n + 1) w = if (tm_st g R w i).length ≤ 48 then tm_nz g R n (tm_st g R w i) else none := by
  rw [tm_nz, h]
theorem tm_rx_lt {w : List Nat} (n : Nat) : ∀ i, tm_rx w n = some i → i < n ∧ tm_rd w i := by
  induction n with
  | zero => intro i h; cases h
  | succ n ih =>
    intro i h
    rw [tm_rx] at h
    by_cases hr : tm_rd w n
    · rw [if_pos hr] at h
      rw [← Option.some.inj h]
      exact ⟨Nat.lt_succ_self _, hr⟩
    · rw [if_neg hr] at h
      obtain ⟨h1, h2⟩ := ih i h
      exact ⟨by omega, h2⟩
theorem tm_kd_0 : tm_kd 0 = none := by decide
theorem tm_rd_lt {w : List Nat} {i : Nat} (h : tm_rd w i) : i + 1 < w.length := by
  apply Nat.lt_of_not_le
  intro hge
  apply h.2
  rw [tm_at_ge hge]
  exact tm_kd_0
theorem tm_kd_c {c k : Nat} (h : tm_kd c = some k) : (k = 0 ∧ (c = 90 ∨ c = 78)) ∨ (k = 1 ∧ (c = 83 ∨ c = 67)) := by
  unfold tm_kd at h
  split at h
  · exact Or.inl ⟨(Option.some.inj h).symm, by assumption⟩
  · split at h
    · exact Or.inr ⟨(Option.some.inj h).symm, by assumption⟩
    · cases h
theorem tm_kd_vn {c k : Nat} (h : tm_kd c = some k) : tm_vn c = none := by
  have := tm_kd_c h
  unfold tm_vn
  rw [if_neg (by omega), if_neg (by omega)]
theorem tm_fn_vn {c : Nat} (h : tm_fn c) : tm_vn c = none := by
  unfold tm_vn
  rw [if_neg (by omega), if_neg (by omega)]
/-- what a signature must keep -/
def tm_GS (g : tm_G) : Prop := tm_V g ∧ (∀ c d k a a' s, tm_kd c = some k → tm_kd d = some k → g c = some (a, s) → g d = some (a', s) → c = d) ∧ (∀ c a s, tm_fn c → g c = some (a, s) → a ≠ [])
def tm_cp (R : Nat → List Nat) (c : Nat) : Prop := R (4 * (c - 70)) ≠ [] ∧ R (4 * (c - 70) + 2) ≠ []
def tm_FC (R : Nat → List Nat) (w : List Nat) : Prop := ∀ c, c ∈ w → tm_fn c → tm_cp R c
/-- the rule at index 4 f + 2 k -/
def tm_RW (g : tm_G) (R : Nat → List Nat) (f k : Nat) : Prop := ∃ K vs s, R (4 * f + 2 * k) = (70 + f) :: K :: vs ∧ tm_kd K = some k ∧ (∀ c, c ∈ vs → ∃ v, tm_vn c = some v) ∧ vs.Nodup ∧ tm_P g [s] (R (4 * f + 2 * k)) ∧ tm_P g [s] (R (4 * f + 2 * k + 1)) ∧ (∀ c, c ∈ R (4 * f + 2 * k + 1) → tm_fn c → c = 70 + f ∨ tm_cp R c)
def tm_RU (g : tm_G) (R : Nat → List Nat) : Prop := ∀ f k, f < 8 → k < 2 → R (4 * f + 2 * k) ≠ [] → tm_RW g R f k
theorem tm_P_mid {g : tm_G} {v : List Nat} (u : List Nat) : ∀ S0, tm_P g S0 (u ++ v) → ∃ S', tm_P g S' v ∧ ∀ v', tm_P g S' v' → tm_P g S0 (u ++ v') := by
  induction u with
  | nil => exact fun S0 h => ⟨S0, h, fun v' h' => h'⟩
  | cons c u ih =>
    intro S0 h
    obtain ⟨a, s, S', hg, rfl, hP⟩ := h
    obtain ⟨S2, h2, h3⟩ := ih _ hP
    exact ⟨S2, h2, fun v' h' => ⟨a, s, S', hg, rfl, h3 v' h'⟩⟩
theorem tm_st_ok {g : tm_G} {R : Nat → List Nat} {w S : List Nat} {i : Nat} (hG : tm_GS g) (hR : tm_RU g R) (hP : tm_P g S w) (hF : tm_FC R w) (hr : tm_rd w i) :
    ∃ r, tm_mt g true w (R (tm_ri w i)) i (fun _ => none) = some r ∧ R (tm_ri w i) ≠ [] ∧ tm_st g R w i = w.take i ++ (tm_in g w r.2 (R (tm_ri w i + 1)) ++ w.drop (tm_e g w i)) ∧ tm_P g S (tm_st g R w i) ∧ tm_FC R (tm_st g R w i) := by
  have hl := tm_rd_lt hr
  obtain ⟨af, sf, S1, hgf, hPf, hP1⟩ := tm_P_suf hP (i := i) (by omega)
  have hfn : tm_fn (tm_at w i) := hr.1
  obtain ⟨k, hk⟩ : ∃ k, tm_kd (tm_at w (i + 1)) = some k := Option.ne_none_iff_exists'.mp hr.2
  have hk2 : k < 2 := by
    have := tm_kd_c hk
    omega
  have hcp := hF _ (tm_at_mem (w := w) (i := i) (by omega)) hfn
  have hri : tm_ri w i = 4 * (tm_at w i - 70) + 2 * k := by
    unfold tm_ri
    rw [hk]
    rfl
  have hne : R (tm_ri w i) ≠ [] := by
    rw [hri]
    have : k = 0 ∨ k = 1 := by omega
    rcases this with rfl | rfl
    · exact hcp.1
    · exact hcp.2
  have hW := hR (tm_at w i - 70) k (by omega) hk2 (by rw [← hri]; exact hne)
  obtain ⟨K, vs, s, hl1, hkK, hvs, hnd, hPl, hPr, hFr⟩ := hW
  rw [← hri] at hl1 hPl hPr hFr
  rw [show 70 + (tm_at w i - 70) = tm_at w i by omega] at hl1 hFr
  have hPl0 := hPl
  rw [hl1] at hPl
  obtain ⟨a2, s2, S2, hg2, hS2, hP2⟩ := hPl
  obtain ⟨rfl, rfl⟩ := List.cons.inj hS2
  rw [hgf] at hg2
  obtain ⟨rfl, rfl⟩ := Prod.mk.inj (Option.some.inj hg2)
  cases af with
  | nil => exact absurd rfl (hG.2.2 _ _ _ hfn hgf)
  | cons s1 af =>
  rw [List.append_nil] at hP2
  obtain ⟨aK, sK, SK, hgK, hSK, hPK⟩ := hP2
  obtain ⟨rfl, rfl⟩ := List.cons.inj hSK
  have hP1' := hP1
  rw [tm_drop_cons hl, List.cons_append] at hP1'
  obtain ⟨aC, sC, SC, hgC, hSC, hPC⟩ := hP1'
  obtain ⟨rfl, rfl⟩ := List.cons.inj hSC
  have hKC := hG.2.1 _ _ _ _ _ _ hkK hk hgK hgC
  subst hKC
  rw [hgK] at hgC
  obtain ⟨rfl, _⟩ := Prod.mk.inj (Option.some.inj hgC)
  rw [← List.append_assoc] at hPC
  obtain ⟨r, hm⟩ := tm_mt_vars hG.1 vs (aK ++ af) S1 (i + 1 + 1) (fun _ => none) (fun c hc => by
    obtain ⟨v, hv⟩ := hvs c hc
    exact ⟨v, hv, rfl⟩) hnd hPK hPC
  have hmm : tm_mt g true w (R (tm_ri w i)) i (fun _ => none) = some r := by
    rw [hl1, tm_mt_sym (by omega) (Or.inr (tm_fn_vn hfn)), if_pos rfl, tm_mt_sym hl (Or.inr (tm_kd_vn hk)), if_pos rfl]
    exact hm
  have hst : tm_st g R w i = w.take i ++ (tm_in g w r.2 (R (tm_ri w i + 1)) ++ w.drop (tm_e g w i)) := by
    unfold tm_st
    rw [hmm]
  refine ⟨r, hmm, hne, hst, ?_, ?_⟩
  · rw [hst]
    have hP0 := hP
    rw [← List.take_append_drop i w] at hP0
    obtain ⟨S3, h3, h4⟩ := tm_P_mid (w.take i) S hP0
    have := tm_P_uniq _ _ _ h3 hPf
    subst this
    apply h4
    have hT := tm_mt_ty hG.1 _ _ S1 i _ r hPl0 hPf tm_T_none hmm
    exact tm_P_app (tm_sub_P hPf).2 _ _ (tm_in_ty hT _ _ hPr)
  · rw [hst]
    intro c hc hcf
    rcases List.mem_append.mp hc with h | h
    · exact hF c (List.mem_of_mem_take h) hcf
    · rcases List.mem_append.mp h with h | h
      · rcases tm_in_mem _ h with h | h
        · rcases hFr c h hcf with e | e
          · rw [e]
            exact hcp
          · exact e
        · exact hF c h hcf
      · exact hF c (List.mem_of_mem_drop h) hcf
theorem tm_nz_ok {g : tm_G} {R : Nat → List Nat} {S : List Nat} (hG : tm_GS g) (hR : tm_RU g R) (n : Nat) : ∀ w w', tm_P g S w → tm_FC R w → w.length ≤ 48 → tm_nz g R n w = some w' → tm_P g S w' ∧ tm_FC R w' ∧ w'.length ≤ 48 := by
  induction n with
  | zero =>
    intro w w' hP hF hl h
    cases hx : tm_rx w w.length with
    | none =>
      rw [tm_nz_no hx] at h
      rw [← Option.some.inj h]
      exact ⟨hP, hF, hl⟩
    | some i =>
      rw [tm_nz_0 hx] at h
      cases h
  | succ n ih =>
    intro w w' hP hF hl h
    cases hx : tm_rx w w.length with
    | none =>
      rw [tm_nz_no hx] at h
      rw [← Option.some.inj h]
      exact ⟨hP, hF, hl⟩
    | some i =>
      rw [tm_nz_s hx] at h
      obtain ⟨r, _, _, _, h1, h2⟩ := tm_st_ok hG hR hP hF (tm_rx_lt _ _ hx).2
      by_cases h3 : (tm_st g R w i).length ≤ 48
      · rw [if_pos h3] at h
        exact ih _ _ h1 h2 h3 h
      · rw [if_neg h3] at h
        cases h
