/-! 24: the tactics keep it: simp, useHyp, useLemma -/
section MA
variable {n : Nat} {A : Nat → List Nat} {Z : Nat → Nat} {M : Nat → Prop} {u : St1} {post : Int32 → St1 → Prop}
theorem mw_simp (h : li_T n A Z M u) (hp : ∀ r u, li_T n A Z M u → post r u) : wpX_simp post u := by
  have h2 := h
  obtain ⟨q, ng, hy, pr, val, e2, act, m, T, L, ay, gs, so, E, B, pv, vl, el, rfl, hpr, hC, hI⟩ := h
  have hI0 := hI
  obtain ⟨hM, hW, hA, hg, hP, hv, hR, hV, hF⟩ := hI
  rcases li_act hI0 with ⟨rfl, rfl⟩ | ⟨kk, k1, k2, rfl, k3, k4, k5⟩
  · unfold wpX_simp
    dsimp only
    exact br_f (by decide) (hp _ _ h2)
  · obtain ⟨⟨sv, w1, w2, w3, w4, w5, w6⟩, hyt, hyf⟩ := hW.2.2.2.2.2.2 (ng - 1) (by omega)
    refine xp_simp k2 hW hg hM k3 (fun _ T1 L1 E1 B1 m1 hM1 f1 => hp _ _ (li_mk hpr (li_keep0 hI0 hM1 f1))) (fun x y T1 L1 E1 B1 m1 hx hyy hM1 a1 a2 a3 => ?_)
    exact li_fin hp hpr hI0 k1 k3 ⟨w1, w3⟩ ⟨w2, w4⟩ hx hyy (fun _ _ => rfl) (fun _ _ => rfl) hM1 a1 a2 a3
theorem mw_useHyp (h : li_T n A Z M u) (hp : ∀ r u, li_T n A Z M u → post r u) (v1 : Int32) : wpX_useHyp post u v1 := by
  have h2 := h
  obtain ⟨q, ng, hy, pr, val, e2, act, m, T, L, ay, gs, so, E, B, pv, vl, el, rfl, hpr, hC, hI⟩ := h
  have hI0 := hI
  obtain ⟨hM, hW, hA, hg, hP, hv, hR, hV, hF⟩ := hI
  rcases li_act hI0 with ⟨rfl, rfl⟩ | ⟨kk, k1, k2, rfl, k3, k4, k5⟩
  · unfold wpX_useHyp
    dsimp only
    exact br_f (by decide) (hp _ _ h2)
  · obtain ⟨⟨sv, w1, w2, w3, w4, w5, w6⟩, hyt, hyf⟩ := hW.2.2.2.2.2.2 (ng - 1) (by omega)
    have hVV := (tm_sg_GS hW.1).1
    have hmain : ∀ f p, (f = 49 + 4 * (ng - 1) + 2 ∧ p = 49 + 4 * (ng - 1) + 3 ∧ v1 = 0) ∨ (f = 49 + 4 * (ng - 1) + 3 ∧ p = 49 + 4 * (ng - 1) + 2 ∧ v1 = 1) → wX_useHyp_22 post v1 (nI n) (nI q) (nI kk) (nI ng) T L ay gs so E B pv vl el := by
      intro f p hfp
      refine xp_useHyp (f := f) (p := p) k2 hW hg hM k3 hfp (fun _ => hp _ _ h2) (fun _ _ T1 L1 E1 B1 m1 hM1 f1 => hp _ _ (li_mk hpr (li_keep0 hI0 hM1 f1))) (fun _ _ _ T1 L1 E1 B1 m1 hM1 f1 => hp _ _ (li_mk hpr (li_keep0 hI0 hM1 f1))) (fun hyv _ x y T1 L1 E1 B1 m1 hx hyy hM1 a1 a2 a3 => ?_)
      have hEf : ∃ sf, tm_P (tm_sg n A Z) [sf] (m f) ∧ tm_P (tm_sg n A Z) [sf] (m p) ∧ tm_FC (iv_R m) (m p) := by
        obtain ⟨sh, v1, v2, v3, v4, v5, v6⟩ := hyt hyv
        rcases hfp with ⟨rfl, rfl, _⟩ | ⟨rfl, rfl, _⟩
        · exact ⟨sh, v1, v2, v4⟩
        · exact ⟨sh, v2, v1, v3⟩
      have heq : ∀ rho, se_v (tm_sg n A Z) rho (m (49 + 4 * (ng - 1) + 2)) = se_v (tm_sg n A Z) rho (m (49 + 4 * (ng - 1) + 3)) → se_v (tm_sg n A Z) rho (m p) = se_v (tm_sg n A Z) rho (m f) := by
        intro rho hh
        rcases hfp with ⟨rfl, rfl, _⟩ | ⟨rfl, rfl, _⟩
        · exact hh.symm
        · exact hh
      obtain ⟨sf, q1, q2, q3⟩ := hEf
      exact li_fin hp hpr hI0 k1 k3 (iv_Rok hVV w1 w3 q1 q2 q3 (Or.inl rfl)) (iv_Rok hVV w2 w4 q1 q2 q3 (Or.inl rfl)) hx hyy (fun rho hh => se_Rf hVV q1 q2 w1 (fun _ => heq rho hh)) (fun rho hh => se_Rf hVV q1 q2 w2 (fun _ => heq rho hh)) hM1 a1 a2 a3
    have ha : (0 : Int32) ≤ nI kk := nI_pos' (by omega)
    unfold wpX_useHyp
    dsimp only
    refine br_t ha ?_
    by_cases h0 : v1 = 0
    · exact br_t h0 (hmain _ _ (Or.inl ⟨rfl, rfl, h0⟩))
    · refine br_f h0 ?_
      by_cases h1 : v1 = 1
      · exact br_t h1 (hmain _ _ (Or.inr ⟨rfl, rfl, h1⟩))
      · exact br_f h1 (hp _ _ h2)
theorem mw_useLemma (h : li_T n A Z M u) (hp : ∀ r u, li_T n A Z M u → post r u) (v1 v2 : Int32) : wpX_useLemma post u v1 v2 := by
  have h2 := h
  obtain ⟨q, ng, hy, pr, val, e2, act, m, T, L, ay, gs, so, E, B, pv, vl, el, rfl, hpr, hC, hI⟩ := h
  have hI0 := hI
  obtain ⟨hM, hW, hA, hg, hP, hv, hR, hV, hF⟩ := hI
  rcases li_act hI0 with ⟨rfl, rfl⟩ | ⟨kk, k1, k2, rfl, k3, k4, k5⟩
  · unfold wpX_useLemma
    dsimp only
    exact br_f (by decide) (hp _ _ h2)
  · obtain ⟨⟨sv, w1, w2, w3, w4, w5, w6⟩, hyt, hyf⟩ := hW.2.2.2.2.2.2 (ng - 1) (by omega)
    have hVV := (tm_sg_GS hW.1).1
    have hq8 := hW.2.1
    have hmain : ∀ jj f p, jj < q → pr jj = true → (f = 1 + 2 * jj ∧ p = 1 + 2 * jj + 1 ∧ v2 = 0) ∨ (f = 1 + 2 * jj + 1 ∧ p = 1 + 2 * jj ∧ v2 = 1) → wX_useLemma_44 post (nI jj) v2 (nI n) (nI q) (nI kk) (nI ng) T L ay gs so E B pv vl el := by
      intro jj f p hjj hpj hfp
      have hEf : ∃ sf, tm_P (tm_sg n A Z) [sf] (m f) ∧ tm_P (tm_sg n A Z) [sf] (m p) ∧ tm_FC (iv_R m) (m p) := by
        obtain ⟨sh, v1, v2, v3, v4, v5, v6⟩ := hW.2.2.2.2.1.1 jj hjj
        rcases hfp with ⟨rfl, rfl, _⟩ | ⟨rfl, rfl, _⟩
        · exact ⟨sh, v1, v2, v4⟩
        · exact ⟨sh, v2, v1, v3⟩
      have heq : ∀ rho, se_v (tm_sg n A Z) rho (m p) = se_v (tm_sg n A Z) rho (m f) := by
        intro rho
        have := hV jj (by omega) hpj rho
        rcases hfp with ⟨rfl, rfl, _⟩ | ⟨rfl, rfl, _⟩
        · exact this.symm
        · exact this
      obtain ⟨sf, q1, q2, q3⟩ := hEf
      refine xp_useLem (f := f) (p := p) k2 hW hg hM k3 hjj hfp (fun _ => hp _ _ h2) (fun _ _ _ T1 L1 E1 B1 m1 hM1 f1 => hp _ _ (li_mk hpr (li_keep0 hI0 hM1 f1))) (fun _ _ _ _ T1 L1 E1 B1 m1 hM1 f1 => hp _ _ (li_mk hpr (li_keep0 hI0 hM1 f1))) (fun hns _ _ x y T1 L1 E1 B1 m1 hx hyy hM1 a1 a2 a3 => ?_)
      exact li_fin hp hpr hI0 k1 k3 (iv_Rok hVV w1 w3 q1 q2 q3 (Or.inr hns)) (iv_Rok hVV w2 w4 q1 q2 q3 (Or.inr hns)) hx hyy (fun rho hh => se_Rp hVV q1 q2 w1 hns heq) (fun rho hh => se_Rp hVV q1 q2 w2 hns heq) hM1 a1 a2 a3
    have ha : (0 : Int32) ≤ nI kk := nI_pos' (by omega)
    unfold wpX_useLemma
    dsimp only
    refine br_t ha ?_
    by_cases hneg : v1 < 0
    · exact br_t hneg (hp _ _ h2)
    · obtain ⟨j, hj, rfl⟩ := nI_of hneg
      refine br_f hneg ?_
      by_cases h8 : j < 8
      · have a8 : ¬ (8 : Int32) ≤ nI j := nI_ge (b := 8) h8 (by decide)
        have hin : vp_in (nI j) 8 := vp_in_nI h8 (by omega)
        obtain ⟨p1, p2⟩ := hP j h8
        rw [nI_clamp (n := j) (by omega), p1]
        refine br_f a8 ⟨hin, ?_⟩
        cases hpj : pr j with
        | false => exact br_t rfl (hp _ _ h2)
        | true =>
          have hjq : j < q := by
            apply Nat.lt_of_not_le
            intro z
            rw [p2 z] at hpj
            cases hpj
          refine br_f (by decide) ?_
          by_cases h0 : v2 = 0
          · exact br_t h0 (hmain j _ _ hjq hpj (Or.inl ⟨rfl, rfl, h0⟩))
          · refine br_f h0 ?_
            by_cases h1 : v2 = 1
            · exact br_t h1 (hmain j _ _ hjq hpj (Or.inr ⟨rfl, rfl, h1⟩))
            · exact br_f h1 (hp _ _ h2)
      · have a8 : (8 : Int32) ≤ nI j := nI_le (a := 8) (by omega) hj
        exact br_t a8 (hp _ _ h2)
end MA
