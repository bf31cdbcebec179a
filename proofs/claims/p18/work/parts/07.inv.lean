/-! 07: what every state keeps of its texts: pure -/
theorem iv_cp_ext {R R' : Nat → List Nat} {c : Nat} (h : ∀ i, i < 32 → R i ≠ [] → R' i ≠ []) (hc : tm_fn c) (hp : tm_cp R c) : tm_cp R' c := ⟨h _ (by omega) hp.1, h _ (by omega) hp.2⟩
theorem iv_FC_ext {R R' : Nat → List Nat} {w : List Nat} (h : ∀ i, i < 32 → R i ≠ [] → R' i ≠ []) (hF : tm_FC R w) : tm_FC R' w := fun c hc hf => iv_cp_ext h hf (hF c hc hf)
theorem iv_eqne {R R' : Nat → List Nat} (h : ∀ i, i < 32 → R' i = R i) : ∀ i, i < 32 → R i ≠ [] → R' i ≠ [] := fun i hi hn => by rw [h i hi]; exact hn
def iv_E (g : tm_G) (R : Nat → List Nat) (u w : List Nat) : Prop := ∃ s, tm_P g [s] u ∧ tm_P g [s] w ∧ tm_FC R u ∧ tm_FC R w ∧ u.length ≤ 48 ∧ w.length ≤ 48
theorem iv_E_mono {g g' : tm_G} {R R' : Nat → List Nat} {u w : List Nat} (hg : ∀ c p, g c = some p → g' c = some p) (hR : ∀ i, i < 32 → R i ≠ [] → R' i ≠ []) (h : iv_E g R u w) : iv_E g' R' u w := by
  obtain ⟨s, h1, h2, h3, h4, h5, h6⟩ := h
  exact ⟨s, tm_P_mono hg _ _ h1, tm_P_mono hg _ _ h2, iv_FC_ext hR h3, iv_FC_ext hR h4, h5, h6⟩
theorem iv_E_ext {g : tm_G} {R R' : Nat → List Nat} {u w : List Nat} (hR : ∀ i, i < 32 → R' i = R i) (h : iv_E g R u w) : iv_E g R' u w := iv_E_mono (fun _ _ h => h) (iv_eqne hR) h
theorem iv_RW_mono {g g' : tm_G} {R R' : Nat → List Nat} {f k : Nat} (hf : f < 8) (hk : k < 2) (hg : ∀ c p, g c = some p → g' c = some p) (hR : ∀ i, i < 32 → R i ≠ [] → R' i ≠ []) (e1 : R' (4 * f + 2 * k) = R (4 * f + 2 * k)) (e2 : R' (4 * f + 2 * k + 1) = R (4 * f + 2 * k + 1)) (h : tm_RW g R f k) : tm_RW g' R' f k := by
  obtain ⟨K, vs, s, h1, h2, h3, h4, h5, h6, h7⟩ := h
  refine ⟨K, vs, s, ?_, h2, h3, h4, ?_, ?_, ?_⟩
  · rw [e1]; exact h1
  · rw [e1]; exact tm_P_mono hg _ _ h5
  · rw [e2]; exact tm_P_mono hg _ _ h6
  · rw [e2]
    intro c hc hf2
    rcases h7 c hc hf2 with h | h
    · exact Or.inl h
    · exact Or.inr (iv_cp_ext hR hf2 h)
theorem iv_RU_mono {g g' : tm_G} {R R' : Nat → List Nat} (hg : ∀ c p, g c = some p → g' c = some p) (hR : ∀ i, i < 32 → R' i = R i) (h : tm_RU g R) : tm_RU g' R' := by
  intro f k hf hk hne
  rw [hR _ (by omega)] at hne
  exact iv_RW_mono hf hk hg (iv_eqne hR) (hR _ (by omega)) (hR _ (by omega)) (h f k hf hk hne)
/-- the texts of a state: buffer, formulas, rules, goals -/
def iv_R (m : Nat → List Nat) : Nat → List Nat := fun i => m (17 + i)
def iv_Wf (n : Nat) (A : Nat → List Nat) (Z : Nat → Nat) (q : Nat) (m : Nat → List Nat) : Prop :=
  (∀ k, k < q → iv_E (tm_sg n A Z) (iv_R m) (m (1 + 2 * k)) (m (1 + 2 * k + 1))) ∧ (∀ i, 2 * q ≤ i → i < 16 → m (1 + i) = [])
def iv_Wr (n : Nat) (A : Nat → List Nat) (Z : Nat → Nat) (m : Nat → List Nat) : Prop :=
  tm_RU (tm_sg n A Z) (iv_R m) ∧ (∀ f k, f < 8 → k < 2 → (iv_R m (4 * f + 2 * k) ≠ [] → f < n) ∧ (iv_R m (4 * f + 2 * k) = [] → iv_R m (4 * f + 2 * k + 1) = [])) ∧ (∀ i, i < 32 → (iv_R m i).length ≤ 48)
def iv_Wg (n : Nat) (A : Nat → List Nat) (Z : Nat → Nat) (ng : Nat) (hy : Nat → Bool) (m : Nat → List Nat) : Prop :=
  ∀ j, j < ng → iv_E (tm_sg n A Z) (iv_R m) (m (49 + 4 * j)) (m (49 + 4 * j + 1)) ∧ (hy j = true → iv_E (tm_sg n A Z) (iv_R m) (m (49 + 4 * j + 2)) (m (49 + 4 * j + 3))) ∧ (hy j = false → m (49 + 4 * j + 2) = [] ∧ m (49 + 4 * j + 3) = [])
def iv_W (n : Nat) (A : Nat → List Nat) (Z : Nat → Nat) (q ng : Nat) (hy : Nat → Bool) (m : Nat → List Nat) : Prop :=
  tm_SG n A Z ∧ q ≤ 8 ∧ ng ≤ 8 ∧ (m 0).length ≤ 48 ∧ iv_Wf n A Z q m ∧ iv_Wr n A Z m ∧ iv_Wg n A Z ng hy m
theorem iv_Wf_ext {n : Nat} {A : Nat → List Nat} {Z : Nat → Nat} {q : Nat} {m m' : Nat → List Nat} (hq : q ≤ 8) (h : ∀ s, 1 ≤ s → s < 49 → m' s = m s) (hW : iv_Wf n A Z q m) : iv_Wf n A Z q m' := by
  refine ⟨fun k hk => ?_, fun i h1 h2 => ?_⟩
  · rw [h _ (by omega) (by omega), h _ (by omega) (by omega)]
    exact iv_E_ext (fun i hi => h _ (by omega) (by omega)) (hW.1 k hk)
  · rw [h _ (by omega) (by omega)]
    exact hW.2 i h1 h2
theorem iv_Wr_ext {n : Nat} {A : Nat → List Nat} {Z : Nat → Nat} {m m' : Nat → List Nat} (h : ∀ s, 17 ≤ s → s < 49 → m' s = m s) (hW : iv_Wr n A Z m) : iv_Wr n A Z m' := by
  have hR : ∀ i, i < 32 → iv_R m' i = iv_R m i := fun i hi => h _ (by omega) (by omega)
  refine ⟨iv_RU_mono (fun _ _ h => h) hR hW.1, fun f k hf hk => ?_, fun i hi => ?_⟩
  · rw [hR _ (by omega), hR _ (by omega)]
    exact hW.2.1 f k hf hk
  · rw [hR i hi]
    exact hW.2.2 i hi
theorem iv_Wg_ext {n : Nat} {A : Nat → List Nat} {Z : Nat → Nat} {ng : Nat} {hy : Nat → Bool} {m m' : Nat → List Nat} (hg : ng ≤ 8) (h : ∀ s, 17 ≤ s → s < 81 → m' s = m s) (hW : iv_Wg n A Z ng hy m) : iv_Wg n A Z ng hy m' := by
  intro j hj
  have hR : ∀ i, i < 32 → iv_R m' i = iv_R m i := fun i hi => h _ (by omega) (by omega)
  obtain ⟨h1, h2, h3⟩ := hW j hj
  rw [h _ (by omega) (by omega), h _ (by omega) (by omega), h _ (by omega) (by omega), h _ (by omega) (by omega)]
  exact ⟨iv_E_ext hR h1, fun z => iv_E_ext hR (h2 z), h3⟩
theorem iv_W_ext {n : Nat} {A : Nat → List Nat} {Z : Nat → Nat} {q ng : Nat} {hy : Nat → Bool} {m m' : Nat → List Nat} (h : ∀ s, 1 ≤ s → s < 81 → m' s = m s) (h0 : (m' 0).length ≤ 48) (hW : iv_W n A Z q ng hy m) : iv_W n A Z q ng hy m' := by
  obtain ⟨h1, h2, h3, _, h5, h6, h7⟩ := hW
  exact ⟨h1, h2, h3, h0, iv_Wf_ext h2 (fun s a b => h s a (by omega)) h5, iv_Wr_ext (fun s a b => h s (by omega) (by omega)) h6, iv_Wg_ext h3 (fun s a b => h s (by omega) b) h7⟩
/-- new goals over the same formulas and rules -/
theorem iv_W_goals {n : Nat} {A : Nat → List Nat} {Z : Nat → Nat} {q ng ng' : Nat} {hy hy' : Nat → Bool} {m m' : Nat → List Nat} (h : ∀ s, 1 ≤ s → s < 49 → m' s = m s) (h0 : (m' 0).length ≤ 48) (hg : ng' ≤ 8) (hW : iv_W n A Z q ng hy m)
    (hn : ∀ j, j < ng' → iv_E (tm_sg n A Z) (iv_R m) (m' (49 + 4 * j)) (m' (49 + 4 * j + 1)) ∧ (hy' j = true → iv_E (tm_sg n A Z) (iv_R m) (m' (49 + 4 * j + 2)) (m' (49 + 4 * j + 3))) ∧ (hy' j = false → m' (49 + 4 * j + 2) = [] ∧ m' (49 + 4 * j + 3) = [])) : iv_W n A Z q ng' hy' m' := by
  obtain ⟨h1, h2, _, _, h5, h6, h7⟩ := hW
  have hR : ∀ i, i < 32 → iv_R m' i = iv_R m i := fun i hi => h _ (by omega) (by omega)
  refine ⟨h1, h2, hg, h0, iv_Wf_ext h2 h h5, iv_Wr_ext (fun s a b => h s (by omega) b) h6, fun j hj => ?_⟩
  obtain ⟨a1, a2, a3⟩ := hn j hj
  exact ⟨iv_E_ext hR a1, fun z => iv_E_ext hR (a2 z), a3⟩
/-- one more function -/
theorem iv_W_decl {n : Nat} {A A' : Nat → List Nat} {Z Z' : Nat → Nat} {q ng : Nat} {hy : Nat → Bool} {m : Nat → List Nat} (hS : tm_SG (n + 1) A' Z') (hA : ∀ f, f < n → A' f = A f ∧ Z' f = Z f) (hW : iv_W n A Z q ng hy m) : iv_W (n + 1) A' Z' q ng hy m := by
  have hg := tm_sg_mono (Nat.le_succ n) hS.1 hA
  obtain ⟨h1, h2, h3, h4, h5, h6, h7⟩ := hW
  refine ⟨hS, h2, h3, h4, ⟨fun k hk => iv_E_mono hg (fun _ _ h => h) (h5.1 k hk), h5.2⟩, ⟨iv_RU_mono hg (fun _ _ => rfl) h6.1, fun f k hf hk => ⟨fun z => Nat.lt_succ_of_lt ((h6.2.1 f k hf hk).1 z), (h6.2.1 f k hf hk).2⟩, h6.2.2⟩, fun j hj => ?_⟩
  obtain ⟨a1, a2, a3⟩ := h7 j hj
  exact ⟨iv_E_mono hg (fun _ _ h => h) a1, fun z => iv_E_mono hg (fun _ _ h => h) (a2 z), a3⟩
/-- one more rule -/
theorem iv_W_rule {n : Nat} {A : Nat → List Nat} {Z : Nat → Nat} {q ng : Nat} {hy : Nat → Bool} {m m' : Nat → List Nat} {f k : Nat} (hf : f < 8) (hk : k < 2) (hfn : f < n) (hno : m (17 + (4 * f + 2 * k)) = [])
    (h : ∀ s, 1 ≤ s → s < 81 → s ≠ 17 + (4 * f + 2 * k) → s ≠ 17 + (4 * f + 2 * k + 1) → m' s = m s) (h0 : (m' 0).length ≤ 48)
    (hl : (m' (17 + (4 * f + 2 * k))).length ≤ 48) (hr : (m' (17 + (4 * f + 2 * k + 1))).length ≤ 48)
    (hW : iv_W n A Z q ng hy m) (hN : tm_RW (tm_sg n A Z) (iv_R m') f k) : iv_W n A Z q ng hy m' := by
  obtain ⟨h1, h2, h3, _, h5, h6, h7⟩ := hW
  have hR : ∀ i, i < 32 → i ≠ 4 * f + 2 * k → i ≠ 4 * f + 2 * k + 1 → iv_R m' i = iv_R m i := fun i hi n1 n2 => h _ (by omega) (by omega) (by omega) (by omega)
  have hno2 : iv_R m (4 * f + 2 * k + 1) = [] := (h6.2.1 f k hf hk).2 hno
  have hne : ∀ i, i < 32 → iv_R m i ≠ [] → iv_R m' i ≠ [] := by
    intro i hi hn
    by_cases e1 : i = 4 * f + 2 * k
    · subst e1
      exact absurd hno hn
    · by_cases e2 : i = 4 * f + 2 * k + 1
      · subst e2
        exact absurd hno2 hn
      · rw [hR i hi e1 e2]
        exact hn
  have hid : ∀ c p, tm_sg n A Z c = some p → tm_sg n A Z c = some p := fun _ _ h => h
  refine ⟨h1, h2, h3, h0, ⟨fun j hj => ?_, fun i a b => ?_⟩, ⟨?_, ?_, ?_⟩, fun j hj => ?_⟩
  · rw [h _ (by omega) (by omega) (by omega) (by omega), h _ (by omega) (by omega) (by omega) (by omega)]
    exact iv_E_mono hid hne (h5.1 j hj)
  · rw [h _ (by omega) (by omega) (by omega) (by omega)]
    exact h5.2 i a b
  · intro f2 k2 hf2 hk2 hn2
    by_cases e : f2 = f ∧ k2 = k
    · rw [e.1, e.2]
      exact hN
    · have e1 : 4 * f2 + 2 * k2 ≠ 4 * f + 2 * k := by omega
      have e2 : 4 * f2 + 2 * k2 ≠ 4 * f + 2 * k + 1 := by omega
      have e3 : 4 * f2 + 2 * k2 + 1 ≠ 4 * f + 2 * k := by omega
      have e4 : 4 * f2 + 2 * k2 + 1 ≠ 4 * f + 2 * k + 1 := by omega
      have r1 := hR (4 * f2 + 2 * k2) (by omega) e1 e2
      have r2 := hR (4 * f2 + 2 * k2 + 1) (by omega) e3 e4
      rw [r1] at hn2
      exact iv_RW_mono hf2 hk2 hid hne r1 r2 (h6.1 f2 k2 hf2 hk2 hn2)
  · intro f2 k2 hf2 hk2
    by_cases e : f2 = f ∧ k2 = k
    · rw [e.1, e.2]
      refine ⟨fun _ => hfn, fun z => ?_⟩
      obtain ⟨K, vs, s, q1, _⟩ := hN
      rw [z] at q1
      cases q1
    · have e1 : 4 * f2 + 2 * k2 ≠ 4 * f + 2 * k := by omega
      have e2 : 4 * f2 + 2 * k2 ≠ 4 * f + 2 * k + 1 := by omega
      have e3 : 4 * f2 + 2 * k2 + 1 ≠ 4 * f + 2 * k := by omega
      have e4 : 4 * f2 + 2 * k2 + 1 ≠ 4 * f + 2 * k + 1 := by omega
      rw [hR (4 * f2 + 2 * k2) (by omega) e1 e2, hR (4 * f2 + 2 * k2 + 1) (by omega) e3 e4]
      exact h6.2.1 f2 k2 hf2 hk2
  · intro i hi
    by_cases e1 : i = 4 * f + 2 * k
    · rw [e1]
      exact hl
    · by_cases e2 : i = 4 * f + 2 * k + 1
      · rw [e2]
        exact hr
      · rw [hR i hi e1 e2]
        exact h6.2.2 i hi
  · obtain ⟨a1, a2, a3⟩ := h7 j hj
    rw [h _ (by omega) (by omega) (by omega) (by omega), h _ (by omega) (by omega) (by omega) (by omega), h _ (by omega) (by omega) (by omega) (by omega), h _ (by omega) (by omega) (by omega) (by omega)]
    exact ⟨iv_E_mono hid hne a1, fun z => iv_E_mono hid hne (a2 z), a3⟩
/-- one more formula, and its goal alone -/
theorem iv_W_conj {n : Nat} {A : Nat → List Nat} {Z : Nat → Nat} {q ng : Nat} {hy hy' : Nat → Bool} {m m' : Nat → List Nat} (hq : q < 8) (h : ∀ s, 1 ≤ s → s < 49 → s ≠ 1 + 2 * q → s ≠ 1 + 2 * q + 1 → m' s = m s) (h0 : (m' 0).length ≤ 48)
    (hE : iv_E (tm_sg n A Z) (iv_R m) (m' (1 + 2 * q)) (m' (1 + 2 * q + 1))) (hg1 : m' 49 = m' (1 + 2 * q)) (hg2 : m' 50 = m' (1 + 2 * q + 1)) (hg3 : m' 51 = []) (hg4 : m' 52 = []) (hh : hy' 0 = false)
    (hW : iv_W n A Z q ng hy m) : iv_W n A Z (q + 1) 1 hy' m' := by
  obtain ⟨h1, h2, h3, _, h5, h6, h7⟩ := hW
  have hR : ∀ i, i < 32 → iv_R m' i = iv_R m i := fun i hi => h _ (by omega) (by omega) (by omega) (by omega)
  refine ⟨h1, by omega, by omega, h0, ⟨fun k hk => ?_, fun i a b => ?_⟩, iv_Wr_ext (fun s a b => h s (by omega) b (by omega) (by omega)) h6, fun j hj => ?_⟩
  · by_cases e : k = q
    · subst e
      exact iv_E_ext hR hE
    · rw [h _ (by omega) (by omega) (by omega) (by omega), h _ (by omega) (by omega) (by omega) (by omega)]
      exact iv_E_ext hR (h5.1 k (by omega))
  · rw [h _ (by omega) (by omega) (by omega) (by omega)]
    exact h5.2 i (by omega) b
  · have e : j = 0 := by omega
    subst e
    refine ⟨?_, fun z => ?_, fun _ => ⟨hg3, hg4⟩⟩
    · show iv_E (tm_sg n A Z) (iv_R m') (m' 49) (m' 50)
      rw [hg1, hg2]
      exact iv_E_ext hR hE
    · rw [hh] at z
      cases z
