/-! 34: defineRule, conjecture -/
theorem i_vc_defineRule {k : Nat} {u : SX} {v : SY} (I : i_Rel k u v) (hk : k + 5 ≤ 2560) : wpX_defineRule (fun r u' => wpY_defineRule (fun r' v' => r' = r ∧ i_Rel (k + 5) u' v') v) u := by
  obtain ⟨n, q, ng, A, Z, hy, pr, val, e2, act, mX, mY, T, L, ay, gs, so, E, B, pv, vl, el, T', L', K, bo, bs, be, fa, fr, fe, hr, ft, hyA, vl', ee, wb, rfl, rfl, hI⟩ := I
  have hI0 := hI
  obtain ⟨hMX, hMY, hW, hL, hA, hsX, hsY, hP, hH, hHy, hvX, hvY⟩ := hI
  have h48 := hW.2.2.2.1
  have e0 : mY 0 = mX 0 := hL.1
  have hS := hW.1
  have hn8 := hS.1
  have g61 : tm_sg n A Z 61 = none := eq_sym hS.1
  have huq : ∀ {e e'}, eq_Q (tm_sg n A Z) (mX 0) e → eq_Q (tm_sg n A Z) (mX 0) e' → e' = e := fun h h' => eq_Q_only g61 h h'.1 h'.2.1
  have hXn := cm_nil hMX (s := 0) (by omega)
  have hkeep : ∀ T2 L2 m2, cm_M 64 89 T2 L2 m2 → m2 0 = [] → (∀ s, 1 ≤ s → s < 81 → m2 s = mY s) → re_I n q ng A Z hy pr val e2 act (cm_set mX 0 []) m2 T (upd L 0 0) ay gs so pv vl el T2 L2 fa fr fe hr ft hyA vl' ee := by
    intro T2 L2 m2 hM2 h20 f2
    refine re_keep0 hI0 hXn (fun s a b => cm_set_n (by omega)) hM2 f2 ?_ ?_
    · rw [h20, cm_set_s]
    · rw [cm_set_s]
      exact Nat.zero_le _
  refine xp_define hW hsX hMX (fun hno => ?_) (fun e hQ hF => ?_) (fun e kd hQ hF hkd hne => ?_) (fun e kd T1 L1 m1 hQ hF hkd hnil hM1 x0 x1 x2 x3 => ?_)
  · refine yp_define (R := iv_R mX) hS hsY hMY hH (by rw [e0]; exact h48) ?_ ?_ ?_ ?_ <;> rw [e0]
    · exact fun _ T2 L2 K2 m2 hM2 h20 f2 => ⟨rfl, re_mk (hkeep T2 L2 m2 hM2 h20 f2)⟩
    · exact fun e hQ => absurd hQ (hno e)
    · exact fun e kd hQ => absurd hQ (hno e)
    · exact fun e kd hQ => absurd hQ (hno e)
  · refine yp_define (R := iv_R mX) hS hsY hMY hH (by rw [e0]; exact h48) ?_ ?_ ?_ ?_ <;> rw [e0]
    · exact fun hno => absurd hQ (hno e)
    · exact fun _ _ _ T2 L2 K2 m2 hM2 h20 f2 => ⟨rfl, re_mk (hkeep T2 L2 m2 hM2 h20 f2)⟩
    · intro e' kd hQ' hF'
      rw [huq hQ hQ'] at hF'
      exact absurd hF' hF
    · intro e' kd hQ' hF'
      rw [huq hQ hQ'] at hF'
      exact absurd hF' hF
  · refine yp_define (R := iv_R mX) hS hsY hMY hH (by rw [e0]; exact h48) ?_ ?_ ?_ ?_ <;> rw [e0]
    · exact fun hno => absurd hQ (hno e)
    · intro e' hQ' hF'
      rw [huq hQ hQ'] at hF'
      exact absurd hF hF'
    · exact fun _ _ _ _ _ _ T2 L2 K2 m2 hM2 h20 f2 => ⟨rfl, re_mk (hkeep T2 L2 m2 hM2 h20 f2)⟩
    · intro e' kd' hQ' hF' hkd' hnil
      rw [hkd] at hkd'
      rw [← Option.some.inj hkd'] at hnil
      exact absurd hnil hne
  · refine yp_define (R := iv_R mX) hS hsY hMY hH (by rw [e0]; exact h48) ?_ ?_ ?_ ?_ <;> rw [e0]
    · exact fun hno => absurd hQ (hno e)
    · intro e' hQ' hF'
      rw [huq hQ hQ'] at hF'
      exact absurd hF hF'
    · intro e' kd' hQ' hF' hkd' hne
      rw [hkd] at hkd'
      rw [← Option.some.inj hkd'] at hne
      exact absurd hnil hne
    · intro e' kd' hQ' hF' hkd' hnil' T2 L2 K2 m2 hM2 y0 y1 y2 y3
      rw [hkd] at hkd'
      obtain rfl := Option.some.inj hkd'
      obtain rfl := huq hQ hQ'
      refine ⟨rfl, ?_⟩
      have hfn : tm_fn (tm_at (mX 0) 0) := hF.1.1
      have hk2 : kd < 2 := by
        have := tm_kd_c hkd
        omega
      obtain ⟨qe, q61, sv, p1, p2⟩ := hQ
      have epos : 0 < e' := by
        have := tm_P_ne p1
        rw [List.length_take] at this
        omega
      have hdec : tm_at (mX 0) 0 < 70 + n := by
        refine yi_fn hS p1 ?_ hfn
        rw [← tm_at_take (w := mX 0) epos]
        exact tm_at_mem (by rw [List.length_take]; omega)
      generalize hf9 : tm_at (mX 0) 0 - 70 = f9 at *
      have hf8 : f9 < 8 := by omega
      have hfn9 : f9 < n := by omega
      have hneR : ∀ i, i < 32 → iv_R mX i ≠ [] → iv_R m1 i ≠ [] := by
        intro i hi hn
        by_cases q1 : i = 4 * f9 + 2 * kd
        · rw [q1] at hn
          exact absurd hnil hn
        · by_cases q2 : i = 4 * f9 + 2 * kd + 1
          · rw [q2] at hn
            exact absurd ((hW.2.2.2.2.2.1.2.1 f9 kd hf8 hk2).2 hnil) hn
          · show m1 (17 + i) ≠ []
            rw [x3 _ (by omega) (by omega) (by omega)]
            exact hn
      have hRW := eq_RW (R := iv_R mX) (R' := iv_R m1) (k := kd) ⟨qe, q61, sv, p1, p2⟩ hF hkd (by rw [hf9]; exact x1) (by rw [hf9]; exact x2) hneR
      rw [hf9] at hRW
      have hW2 : iv_W n A Z q ng hy m1 := by
        refine iv_W_rule (f := f9) (k := kd) hf8 hk2 hfn9 hnil (fun s a b c d => x3 s (by omega) c d) ?_ ?_ ?_ hW hRW
        · rw [x0]
          exact Nat.zero_le _
        · rw [x1, List.length_take]
          omega
        · rw [x2, List.length_drop]
          omega
      refine re_mk ⟨hM1, hM2, hW2, ⟨by rw [x0, y0], fun i hi => ?_, fun i hi => ?_, fun j hj => ?_⟩, hA, hsX, hsY, hP, ?_, hHy, hvX, hvY⟩
      · rw [x3 _ (by omega) (by omega) (by omega), y3 _ (by omega) (by omega) (by omega) (by omega)]
        exact hL.2.1 i hi
      · by_cases q1 : i = 4 * f9 + 2 * kd
        · rw [q1, x1, y1]
        · by_cases q2 : i = 4 * f9 + 2 * kd + 1
          · rw [q2, x2, y2]
          · rw [x3 _ (by omega) (by omega) (by omega), y3 _ (by omega) (by omega) (by omega) (by omega)]
            exact hL.2.2.1 i hi
      · have hg8 := hW.2.2.1
        rw [x3 (49 + 4 * j) (by omega) (by omega) (by omega), x3 (49 + 4 * j + 1) (by omega) (by omega) (by omega), x3 (49 + 4 * j + 2) (by omega) (by omega) (by omega), x3 (49 + 4 * j + 3) (by omega) (by omega) (by omega), y3 (49 + 4 * j) (by omega) (by omega) (by omega) (by omega), y3 (49 + 4 * j + 1) (by omega) (by omega) (by omega) (by omega), y3 (49 + 4 * j + 2) (by omega) (by omega) (by omega) (by omega), y3 (49 + 4 * j + 3) (by omega) (by omega) (by omega) (by omega)]
        exact hL.2.2.2 j hj
      · intro f k3 hf hk3
        have hx1 : iv_R m1 (4 * f9 + 2 * kd) = (mX 0).take e' := x1
        by_cases q1 : f = f9 ∧ k3 = kd
        · obtain ⟨rfl, rfl⟩ := q1
          rw [cm_us, hx1, if_neg]
          intro z
          have := congrArg List.length z
          rw [List.length_take, List.length_nil] at this
          omega
        · rw [cm_un (by omega), hH f k3 hf hk3]
          have : iv_R m1 (4 * f + 2 * k3) = iv_R mX (4 * f + 2 * k3) := x3 _ (by omega) (by omega) (by omega)
          rw [this]
theorem i_vc_conjecture {k : Nat} {u : SX} {v : SY} (I : i_Rel k u v) (hk : k + 5 ≤ 2560) : wpX_conjecture (fun r u' => wpY_conjecture (fun r' v' => r' = r ∧ i_Rel (k + 5) u' v') v) u := by
  obtain ⟨n, q, ng, A, Z, hy, pr, val, e2, act, mX, mY, T, L, ay, gs, so, E, B, pv, vl, el, T', L', K, bo, bs, be, fa, fr, fe, hr, ft, hyA, vl', ee, wb, rfl, rfl, hI⟩ := I
  have hI0 := hI
  obtain ⟨hMX, hMY, hW, hL, hA, hsX, hsY, hP, hH, hHy, hvX, hvY⟩ := hI
  have h48 := hW.2.2.2.1
  have e0 : mY 0 = mX 0 := hL.1
  have hS := hW.1
  have hq8 := hW.2.1
  have hn8 := hS.1
  have g61 : tm_sg n A Z 61 = none := eq_sym hS.1
  have huq : ∀ {e e'}, eq_Q (tm_sg n A Z) (mX 0) e → eq_Q (tm_sg n A Z) (mX 0) e' → e' = e := fun h h' => eq_Q_only g61 h h'.1 h'.2.1
  have hXn := cm_nil hMX (s := 0) (by omega)
  have hact : act < 0 ∨ ∃ k, k < 8 ∧ act = nI k := by
    rcases re_act hI0 with ⟨z, _⟩ | ⟨kk, _, k2, k3, _⟩
    · left
      rw [z]
      decide
    · exact Or.inr ⟨kk, k2, k3⟩
  have hkeep : ∀ T2 L2 m2, cm_M 64 89 T2 L2 m2 → m2 0 = [] → (∀ s, 1 ≤ s → s < 81 → m2 s = mY s) → re_I n q ng A Z hy pr val e2 act (cm_set mX 0 []) m2 T (upd L 0 0) ay gs so pv vl el T2 L2 fa fr fe hr ft hyA vl' ee := by
    intro T2 L2 m2 hM2 h20 f2
    refine re_keep0 hI0 hXn (fun s a b => cm_set_n (by omega)) hM2 f2 ?_ ?_
    · rw [h20, cm_set_s]
    · rw [cm_set_s]
      exact Nat.zero_le _
  refine xp_conj hW hsX hMX (fun hno => ?_) (fun e hQ hF => ?_) (fun e hQ hF hq9 => ?_) (fun e T1 L1 m1 hQ hF hq9 hM1 x0 x1 x2 x3 x4 x5 x6 x7 => ?_)
  · refine yp_conj (R := iv_R mX) hS hsY hMY hH (by rw [e0]; exact h48) hq8 hact ?_ ?_ ?_ ?_ <;> rw [e0]
    · exact fun _ T2 L2 K2 m2 hM2 h20 f2 => ⟨rfl, re_mk (hkeep T2 L2 m2 hM2 h20 f2)⟩
    · exact fun e hQ => absurd hQ (hno e)
    · exact fun e hQ => absurd hQ (hno e)
    · exact fun e hQ => absurd hQ (hno e)
  · refine yp_conj (R := iv_R mX) hS hsY hMY hH (by rw [e0]; exact h48) hq8 hact ?_ ?_ ?_ ?_ <;> rw [e0]
    · exact fun hno => absurd hQ (hno e)
    · exact fun _ _ _ T2 L2 K2 m2 hM2 h20 f2 => ⟨rfl, re_mk (hkeep T2 L2 m2 hM2 h20 f2)⟩
    · exact fun _ _ h => absurd h hF
    · exact fun _ _ h => absurd h hF
  · refine yp_conj (R := iv_R mX) hS hsY hMY hH (by rw [e0]; exact h48) hq8 hact ?_ ?_ ?_ ?_ <;> rw [e0]
    · exact fun hno => absurd hQ (hno e)
    · exact fun _ _ h => absurd hF h
    · exact fun _ _ _ _ T2 L2 K2 m2 hM2 h20 f2 => ⟨rfl, re_mk (hkeep T2 L2 m2 hM2 h20 f2)⟩
    · exact fun _ _ _ h => absurd h (by omega)
  · refine yp_conj (R := iv_R mX) hS hsY hMY hH (by rw [e0]; exact h48) hq8 hact ?_ ?_ ?_ ?_ <;> rw [e0]
    · exact fun hno => absurd hQ (hno e)
    · exact fun _ _ h => absurd hF h
    · exact fun _ _ _ h => absurd h (by omega)
    · intro e' hQ' _ _ T2 L2 K2 m2 hM2 y0 y1 y2 y3 y4 y5
      obtain rfl := huq hQ hQ'
      refine ⟨rfl, ?_⟩
      obtain ⟨qe, q61, sv, p1, p2⟩ := hQ
      have hE : iv_E (tm_sg n A Z) (iv_R mX) (m1 (1 + 2 * q)) (m1 (1 + 2 * q + 1)) := by
        rw [x1, x2]
        refine ⟨sv, p1, p2, fun c hc hf => hF c (List.mem_of_mem_take hc) hf, fun c hc hf => hF c (List.mem_of_mem_drop hc) hf, ?_, ?_⟩
        · rw [List.length_take]
          omega
        · rw [List.length_drop]
          omega
      have hW2 : iv_W n A Z (q + 1) 1 (fun _ => false) m1 := iv_W_conj hq9 (fun s a b c d => x7 s (by omega) c d (by omega) (by omega) (by omega) (by omega)) (by rw [x0]; exact Nat.zero_le _) hE (by rw [x3, x1]) (by rw [x4, x2]) x5 x6 rfl hW
      refine re_mk (ng := 1) (q := q + 1) (hy := fun _ => false) ⟨hM1, hM2, hW2, ⟨by rw [x0, y0], fun i hi => ?_, fun i hi => ?_, fun j hj => ?_⟩, Or.inr ⟨q, by omega, rfl, Nat.le_refl _, (hP q (by omega)).2.1 (Nat.le_refl _)⟩, hsX, hsY, ?_, ?_, ?_, hvX, hvY⟩
      · by_cases q1 : i = 2 * q
        · rw [q1, x1, y1]
        · by_cases q2 : i = 2 * q + 1
          · rw [q2]
            exact y2.trans x2.symm
          · rw [x7 _ (by omega) (by omega) (by omega) (by omega) (by omega) (by omega) (by omega), y5 _ (by omega) (by omega) (by omega) (by omega) (by omega) (by omega)]
            exact hL.2.1 i hi
      · rw [x7 _ (by omega) (by omega) (by omega) (by omega) (by omega) (by omega) (by omega), y5 _ (by omega) (by omega) (by omega) (by omega) (by omega) (by omega)]
        exact hL.2.2.1 i hi
      · have : j = 0 := by omega
        subst this
        exact ⟨y3.trans x3.symm, y4.trans x4.symm, fun z => nomatch z⟩
      · intro j hj
        obtain ⟨r1, r2, r3⟩ := hP j hj
        refine ⟨r1, fun z => r2 (by omega), ?_⟩
        by_cases q1 : j = q
        · subst q1
          rw [cm_us, r2 (Nat.le_refl _), if_neg (by decide), if_pos (by omega), if_pos rfl]
        · have hfo : yo_ft act ft j = if pr j = true then 3 else if j < q then 1 else 0 := by
            unfold yo_ft
            rcases re_act hI0 with ⟨rfl, _⟩ | ⟨kk, k1, k2, rfl, _, _, k5⟩
            · rw [if_pos (show (-1 : Int32) < 0 by decide)]
              rw [if_neg (show ¬ (-1 : Int32) = nI j from fun z => xi_neg (by omega) z.symm)] at r3
              exact r3
            · rw [if_neg (show ¬ nI kk < 0 from nI_pos (by omega)), nI_clamp (show kk < 2 ^ 31 by omega)]
              by_cases q2 : j = kk
              · rw [q2, cm_us, k5, if_neg (by decide), if_pos k1]
              · rw [cm_un q2]
                rw [if_neg (show ¬ nI kk = nI j from fun z => q2 ((nI_eq (by omega) (by omega)).mp z).symm)] at r3
                exact r3
          rw [cm_un q1, hfo]
          by_cases hpj : pr j = true
          · rw [if_pos hpj, if_pos hpj]
          · rw [if_neg hpj, if_neg hpj]
            by_cases hjq : j < q
            · rw [if_pos hjq, if_pos (show j < q + 1 by omega), if_neg (show ¬ nI q = nI j from fun z => q1 ((nI_eq (by omega) (by omega)).mp z).symm)]
            · rw [if_neg hjq, if_neg (show ¬ j < q + 1 by omega)]
      · exact re_Hext (re_Rext (fun s a b => x7 s (by omega) (by omega) (by omega) (by omega) (by omega) (by omega) (by omega))) hH
      · intro j hj
        have : j = 0 := by omega
        subst this
        rw [cm_us]
        rfl
