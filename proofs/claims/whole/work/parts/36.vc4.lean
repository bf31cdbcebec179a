/-! 36: useHyp, useLemma -/
theorem i_vc_useHyp {k : Nat} {u : SX} {v : SY} (I : i_Rel k u v) (hk : k + 5 ≤ 2560) (v1 : Int32) : wpX_useHyp (fun r u' => wpY_useHyp (fun r' v' => r' = r ∧ i_Rel (k + 5) u' v') v v1) u v1 := by
  have I2 := I
  obtain ⟨n, q, ng, A, Z, hy, pr, val, e2, act, mX, mY, T, L, ay, gs, so, E, B, pv, vl, el, T', L', K, bo, bs, be, fa, fr, fe, hr, ft, hyA, vl', ee, wb, rfl, rfl, hI⟩ := I
  have hI0 := hI
  obtain ⟨hMX, hMY, hW, hL, hA, hsX, hsY, hP, hH, hHy, hvX, hvY⟩ := hI
  rcases re_act hI0 with ⟨rfl, rfl⟩ | ⟨kk, k1, k2, rfl, k3, k4, k5⟩
  · unfold wpX_useHyp wpY_useHyp
    dsimp only
    exact br_f (by decide) (br_f (by decide) ⟨rfl, I2⟩)
  ·
    have hS := hW.1
    have hRU := hW.2.2.2.2.2.1.1
    have hq8 := hW.2.1
    obtain ⟨⟨sv, w1, w2, w3, w4, w5, w6⟩, hyt, hyf⟩ := hW.2.2.2.2.2.2 (ng - 1) (by omega)
    obtain ⟨l1, l2, l3⟩ := hL.2.2.2 (ng - 1) (by omega)
    have hRm : ∀ i, i < 32 → mY (1 + i) = iv_R mX i := hL.2.2.1
    have hV := (tm_sg_GS hS).1
    have hmain : ∀ f p, (f = 49 + 4 * (ng - 1) + 2 ∧ p = 49 + 4 * (ng - 1) + 3 ∧ v1 = 0) ∨ (f = 49 + 4 * (ng - 1) + 3 ∧ p = 49 + 4 * (ng - 1) + 2 ∧ v1 = 1) → (∀ Q, wY_useHyp_22 Q v1 (nI n) (nI q) (nI ng) (nI kk) T' L' K bo bs be fa fr fe hr ft hyA vl' ee wb → wpY_useHyp Q (nI n, nI q, nI ng, nI kk, T', L', K, bo, bs, be, fa, fr, fe, hr, ft, hyA, vl', ee, wb) v1) → wX_useHyp_22 (fun r u' => wpY_useHyp (fun r' v' => r' = r ∧ i_Rel (k + 5) u' v') (nI n, nI q, nI ng, nI kk, T', L', K, bo, bs, be, fa, fr, fe, hr, ft, hyA, vl', ee, wb) v1) v1 (nI n) (nI q) (nI kk) (nI ng) T L ay gs so E B pv vl el := by
      intro f p hfp hwrap
      have hfl : hy (ng - 1) = true → mY f = mX f ∧ mY p = mX p := by
        intro hyv
        obtain ⟨z1, z2⟩ := l3 hyv
        rcases hfp with ⟨rfl, rfl, _⟩ | ⟨rfl, rfl, _⟩
        · exact ⟨z1, z2⟩
        · exact ⟨z2, z1⟩
      have hEf : hy (ng - 1) = true → ∃ sf, tm_P (tm_sg n A Z) [sf] (mX f) ∧ tm_P (tm_sg n A Z) [sf] (mX p) ∧ tm_FC (iv_R mX) (mX p) := by
        intro hyv
        obtain ⟨sh, v1, v2, v3, v4, v5, v6⟩ := hyt hyv
        rcases hfp with ⟨rfl, rfl, _⟩ | ⟨rfl, rfl, _⟩
        · exact ⟨sh, v1, v2, v4⟩
        · exact ⟨sh, v2, v1, v3⟩
      have hytY : hy (ng - 1) = true → ∃ sf, tm_P (tm_sg n A Z) [sf] (mY f) ∧ tm_P (tm_sg n A Z) [sf] (mY p) ∧ tm_FC (iv_R mX) (mY p) := by
        intro hyv
        rw [(hfl hyv).1, (hfl hyv).2]
        exact hEf hyv
      refine xp_useHyp (f := f) (p := p) k2 hW hsX hMX k3 hfp (fun hyv => ?_) (fun hyv hz T1 L1 E1 B1 m1 hM1 f1 => ?_) (fun hyv hz hno T1 L1 E1 B1 m1 hM1 f1 => ?_) (fun hyv hz x y T1 L1 E1 B1 m1 hx hyy hM1 a1 a2 a3 => ?_)
      · refine hwrap _ (yp_useHyp (R := iv_R mX) (s1 := sv) (s2 := sv) (f := f) (p := p) (hyv := hy (ng - 1)) hS hsY hRU hH hMY hRm k2 k3 k4 (by rw [l1]; exact ⟨w1, w3⟩) (by rw [l2]; exact ⟨w2, w4⟩) (by rw [l1]; exact w5) (by rw [l2]; exact w6) (hHy (ng - 1) (by omega)) hytY hfp ?_ ?_ ?_ ?_)
        · exact fun _ => ⟨rfl, I2⟩
        · intro z; rw [hyv] at z; cases z
        · intro z; rw [hyv] at z; cases z
        · intro z; rw [hyv] at z; cases z
      · refine hwrap _ (yp_useHyp (R := iv_R mX) (s1 := sv) (s2 := sv) (f := f) (p := p) (hyv := hy (ng - 1)) hS hsY hRU hH hMY hRm k2 k3 k4 (by rw [l1]; exact ⟨w1, w3⟩) (by rw [l2]; exact ⟨w2, w4⟩) (by rw [l1]; exact w5) (by rw [l2]; exact w6) (hHy (ng - 1) (by omega)) hytY hfp ?_ ?_ ?_ ?_)
        · intro z; rw [hyv] at z; cases z
        · exact fun _ _ T2 L2 bo2 bs2 be2 m2 hM2 f2 => ⟨rfl, re_mk (re_keep hI0 hM1 f1 hM2 f2)⟩
        · rw [l1, l2, (hfl hyv).1, (hfl hyv).2]
          exact fun _ z => absurd hz z
        · rw [l1, l2, (hfl hyv).1, (hfl hyv).2]
          exact fun _ z => absurd hz z
      · refine hwrap _ (yp_useHyp (R := iv_R mX) (s1 := sv) (s2 := sv) (f := f) (p := p) (hyv := hy (ng - 1)) hS hsY hRU hH hMY hRm k2 k3 k4 (by rw [l1]; exact ⟨w1, w3⟩) (by rw [l2]; exact ⟨w2, w4⟩) (by rw [l1]; exact w5) (by rw [l2]; exact w6) (hHy (ng - 1) (by omega)) hytY hfp ?_ ?_ ?_ ?_)
        · intro z; rw [hyv] at z; cases z
        · rw [l1, l2, (hfl hyv).1, (hfl hyv).2]
          exact fun _ z => absurd z hz
        · exact fun _ _ _ T2 L2 bo2 bs2 be2 m2 hM2 f2 => ⟨rfl, re_mk (re_keep hI0 hM1 f1 hM2 f2)⟩
        · rw [l1, l2, (hfl hyv).1, (hfl hyv).2]
          intro _ _ x y T2 L2 bo2 bs2 be2 m2 hx hyy
          rcases hno with z | z; (rw [hx] at z; cases z); (rw [hyy] at z; cases z)
      · have hYY : ∀ (Q : Int32 → SY → Prop), (∀ T2 L2 bo2 bs2 be2 m2, cm_M 64 89 T2 L2 m2 → m2 (49 + 4 * (ng - 1)) = x → m2 (49 + 4 * (ng - 1) + 1) = y → (∀ s, s < 81 → s ≠ 49 + 4 * (ng - 1) → s ≠ 49 + 4 * (ng - 1) + 1 → m2 s = mY s) → (x ≠ y → Q (nI ng) (nI n, nI q, nI ng, nI kk, T2, L2, K, bo2, bs2, be2, fa, fr, fe, hr, ft, hyA, vl', ee, wb)) ∧ (x = y → ng = 1 → Q 0 (nI n, nI q, 0, -1, T2, L2, K, bo2, bs2, be2, fa, fr, fe, hr, upd ft kk 3, hyA, vl', ee, wb)) ∧ (x = y → 1 < ng → Q (nI (ng - 1)) (nI n, nI q, nI (ng - 1), nI kk, T2, L2, K, bo2, bs2, be2, fa, fr, fe, hr, ft, hyA, vl', ee, wb))) → wpY_useHyp Q (nI n, nI q, nI ng, nI kk, T', L', K, bo, bs, be, fa, fr, fe, hr, ft, hyA, vl', ee, wb) v1 := by
          intro Q hQ
          refine hwrap _ (yp_useHyp (R := iv_R mX) (s1 := sv) (s2 := sv) (f := f) (p := p) (hyv := hy (ng - 1)) hS hsY hRU hH hMY hRm k2 k3 k4 (by rw [l1]; exact ⟨w1, w3⟩) (by rw [l2]; exact ⟨w2, w4⟩) (by rw [l1]; exact w5) (by rw [l2]; exact w6) (hHy (ng - 1) (by omega)) hytY hfp ?_ ?_ ?_ ?_)
          · intro z; rw [hyv] at z; cases z
          · rw [l1, l2, (hfl hyv).1, (hfl hyv).2]
            exact fun _ z => absurd z hz
          · rw [l1, l2, (hfl hyv).1, (hfl hyv).2]
            intro _ _ z
            rcases z with z | z; (rw [hx] at z; cases z); (rw [hyy] at z; cases z)
          · rw [l1, l2, (hfl hyv).1, (hfl hyv).2]
            intro _ _
            intro x' y' T2 L2 bo2 bs2 be2 m2 hx' hy' hM2 b1 b2 b3
            rw [hx] at hx'
            rw [hyy] at hy'
            obtain rfl := Option.some.inj hx'
            obtain rfl := Option.some.inj hy'
            exact hQ T2 L2 bo2 bs2 be2 m2 hM2 b1 b2 b3
        obtain ⟨sf, q1, q2, q3⟩ := hEf hyv
        refine ⟨fun z => hYY _ (fun T2 L2 bo2 bs2 be2 m2 hM2 b1 b2 b3 => ⟨fun _ => ⟨rfl, (re_fin hI0 k1 k3 (iv_Rok hV w1 w3 q1 q2 q3 (Or.inl rfl)) (iv_Rok hV w2 w4 q1 q2 q3 (Or.inl rfl)) hx hyy hM1 a1 a2 a3 hM2 b1 b2 b3).1⟩, fun y => absurd y z, fun y => absurd y z⟩), fun z z1 => hYY _ (fun T2 L2 bo2 bs2 be2 m2 hM2 b1 b2 b3 => ⟨fun y => absurd z y, fun _ _ => ⟨rfl, (re_fin hI0 k1 k3 (iv_Rok hV w1 w3 q1 q2 q3 (Or.inl rfl)) (iv_Rok hV w2 w4 q1 q2 q3 (Or.inl rfl)) hx hyy hM1 a1 a2 a3 hM2 b1 b2 b3).2.1 z1⟩, fun _ y => by omega⟩), fun z z1 => hYY _ (fun T2 L2 bo2 bs2 be2 m2 hM2 b1 b2 b3 => ⟨fun y => absurd z y, fun _ y => by omega, fun _ _ => ⟨rfl, (re_fin hI0 k1 k3 (iv_Rok hV w1 w3 q1 q2 q3 (Or.inl rfl)) (iv_Rok hV w2 w4 q1 q2 q3 (Or.inl rfl)) hx hyy hM1 a1 a2 a3 hM2 b1 b2 b3).2.2 z1⟩⟩)⟩
    have ha : (0 : Int32) ≤ nI kk := nI_pos' (by omega)
    unfold wpX_useHyp
    dsimp only
    refine br_t ha ?_
    by_cases h0 : v1 = 0
    · refine br_t h0 (hmain _ _ (Or.inl ⟨rfl, rfl, h0⟩) (fun Q hQ => ?_))
      unfold wpY_useHyp
      dsimp only
      exact br_t ha (br_t h0 hQ)
    · refine br_f h0 ?_
      by_cases h1 : v1 = 1
      · refine br_t h1 (hmain _ _ (Or.inr ⟨rfl, rfl, h1⟩) (fun Q hQ => ?_))
        unfold wpY_useHyp
        dsimp only
        exact br_t ha (br_f h0 (br_t h1 hQ))
      · unfold wpY_useHyp
        dsimp only
        exact br_f h1 (br_t ha (br_f h0 (br_f h1 ⟨rfl, I2⟩)))
theorem i_vc_useLemma {k : Nat} {u : SX} {v : SY} (I : i_Rel k u v) (hk : k + 5 ≤ 2560) (v1 : Int32) (v2 : Int32) : wpX_useLemma (fun r u' => wpY_useLemma (fun r' v' => r' = r ∧ i_Rel (k + 5) u' v') v v1 v2) u v1 v2 := by
  have I2 := I
  obtain ⟨n, q, ng, A, Z, hy, pr, val, e2, act, mX, mY, T, L, ay, gs, so, E, B, pv, vl, el, T', L', K, bo, bs, be, fa, fr, fe, hr, ft, hyA, vl', ee, wb, rfl, rfl, hI⟩ := I
  have hI0 := hI
  obtain ⟨hMX, hMY, hW, hL, hA, hsX, hsY, hP, hH, hHy, hvX, hvY⟩ := hI
  rcases re_act hI0 with ⟨rfl, rfl⟩ | ⟨kk, k1, k2, rfl, k3, k4, k5⟩
  · unfold wpX_useLemma wpY_useLemma
    dsimp only
    exact br_f (by decide) (br_f (by decide) ⟨rfl, I2⟩)
  ·
    have hS := hW.1
    have hRU := hW.2.2.2.2.2.1.1
    have hq8 := hW.2.1
    obtain ⟨⟨sv, w1, w2, w3, w4, w5, w6⟩, hyt, hyf⟩ := hW.2.2.2.2.2.2 (ng - 1) (by omega)
    obtain ⟨l1, l2, l3⟩ := hL.2.2.2 (ng - 1) (by omega)
    have hRm : ∀ i, i < 32 → mY (1 + i) = iv_R mX i := hL.2.2.1
    have hV := (tm_sg_GS hS).1
    have hmain : ∀ jj f p, jj < q → (f = 1 + 2 * jj ∧ p = 1 + 2 * jj + 1 ∧ v2 = 0) ∨ (f = 1 + 2 * jj + 1 ∧ p = 1 + 2 * jj ∧ v2 = 1) → (∀ Q, wY_useLemma_45 Q (nI jj) v2 (nI n) (nI q) (nI ng) (nI kk) T' L' K bo bs be fa fr fe hr ft hyA vl' ee wb → wpY_useLemma Q (nI n, nI q, nI ng, nI kk, T', L', K, bo, bs, be, fa, fr, fe, hr, ft, hyA, vl', ee, wb) (nI jj) v2) → wX_useLemma_44 (fun r u' => wpY_useLemma (fun r' v' => r' = r ∧ i_Rel (k + 5) u' v') (nI n, nI q, nI ng, nI kk, T', L', K, bo, bs, be, fa, fr, fe, hr, ft, hyA, vl', ee, wb) (nI jj) v2) (nI jj) v2 (nI n) (nI q) (nI kk) (nI ng) T L ay gs so E B pv vl el := by
      intro jj f p hjj hfp hwrap
      have hkk8 : jj < 8 := by omega
      have hfpY : (f + 32 = 33 + 2 * jj ∧ p + 32 = 33 + 2 * jj + 1 ∧ v2 = 0) ∨ (f + 32 = 33 + 2 * jj + 1 ∧ p + 32 = 33 + 2 * jj ∧ v2 = 1) := by
        rcases hfp with ⟨a, b, c⟩ | ⟨a, b, c⟩
        · exact Or.inl ⟨by omega, by omega, c⟩
        · exact Or.inr ⟨by omega, by omega, c⟩
      have lf : mY (f + 32) = mX f := by
        have := hL.2.1 (f - 1) (by omega)
        rwa [show 33 + (f - 1) = f + 32 by omega, show 1 + (f - 1) = f by omega] at this
      have lp : mY (p + 32) = mX p := by
        have := hL.2.1 (p - 1) (by omega)
        rwa [show 33 + (p - 1) = p + 32 by omega, show 1 + (p - 1) = p by omega] at this
      have hEf : ∃ sf, tm_P (tm_sg n A Z) [sf] (mX f) ∧ tm_P (tm_sg n A Z) [sf] (mX p) ∧ tm_FC (iv_R mX) (mX p) := by
        obtain ⟨sh, v1, v2, v3, v4, v5, v6⟩ := hW.2.2.2.2.1.1 jj hjj
        rcases hfp with ⟨rfl, rfl, _⟩ | ⟨rfl, rfl, _⟩
        · exact ⟨sh, v1, v2, v4⟩
        · exact ⟨sh, v2, v1, v3⟩
      obtain ⟨sf, q1, q2, q3⟩ := hEf
      refine xp_useLem (f := f) (p := p) k2 hW hsX hMX k3 hjj hfp (fun hF => ?_) (fun hns hsub hz T1 L1 E1 B1 m1 hM1 f1 => ?_) (fun hns hsub hz hno T1 L1 E1 B1 m1 hM1 f1 => ?_) (fun hns hsub hz x y T1 L1 E1 B1 m1 hx hyy hM1 a1 a2 a3 => ?_)
      · refine hwrap _ (yp_useLem (R := iv_R mX) (s1 := sv) (s2 := sv) (sf := sf) (f := f + 32) (p := p + 32) hS hsY hRU hH hMY hRm k2 k3 k4 (by rw [l1]; exact ⟨w1, w3⟩) (by rw [l2]; exact ⟨w2, w4⟩) (by rw [l1]; exact w5) (by rw [l2]; exact w6) hkk8 (by rw [lf]; exact q1) (by rw [lp]; exact q2) (by rw [lp]; exact q3) hfpY ?_ ?_ ?_ ?_) <;> (first | rw [l1, l2, lf, lp] | rw [lf, lp])
        · exact fun _ => ⟨rfl, I2⟩
        · intro z1 z2
          rcases hF with z | z
          · exact absurd z z1
          · exact absurd z2 z
        · intro z1 z2
          rcases hF with z | z
          · exact absurd z z1
          · exact absurd z2 z
        · intro z1 z2
          rcases hF with z | z
          · exact absurd z z1
          · exact absurd z2 z
      · refine hwrap _ (yp_useLem (R := iv_R mX) (s1 := sv) (s2 := sv) (sf := sf) (f := f + 32) (p := p + 32) hS hsY hRU hH hMY hRm k2 k3 k4 (by rw [l1]; exact ⟨w1, w3⟩) (by rw [l2]; exact ⟨w2, w4⟩) (by rw [l1]; exact w5) (by rw [l2]; exact w6) hkk8 (by rw [lf]; exact q1) (by rw [lp]; exact q2) (by rw [lp]; exact q3) hfpY ?_ ?_ ?_ ?_) <;> (first | rw [l1, l2, lf, lp] | rw [lf, lp])
        · intro z
          rcases z with z | z
          · exact absurd z hns
          · exact absurd hsub z
        · exact fun _ _ _ T2 L2 bo2 bs2 be2 m2 hM2 f2 => ⟨rfl, re_mk (re_keep hI0 hM1 f1 hM2 f2)⟩
        · exact fun _ _ z => absurd hz z
        · exact fun _ _ z => absurd hz z
      · refine hwrap _ (yp_useLem (R := iv_R mX) (s1 := sv) (s2 := sv) (sf := sf) (f := f + 32) (p := p + 32) hS hsY hRU hH hMY hRm k2 k3 k4 (by rw [l1]; exact ⟨w1, w3⟩) (by rw [l2]; exact ⟨w2, w4⟩) (by rw [l1]; exact w5) (by rw [l2]; exact w6) hkk8 (by rw [lf]; exact q1) (by rw [lp]; exact q2) (by rw [lp]; exact q3) hfpY ?_ ?_ ?_ ?_) <;> (first | rw [l1, l2, lf, lp] | rw [lf, lp])
        · intro z
          rcases z with z | z
          · exact absurd z hns
          · exact absurd hsub z
        · exact fun _ _ z => absurd z hz
        · exact fun _ _ _ _ T2 L2 bo2 bs2 be2 m2 hM2 f2 => ⟨rfl, re_mk (re_keep hI0 hM1 f1 hM2 f2)⟩
        · intro _ _ _ x y T2 L2 bo2 bs2 be2 m2 hx hyy
          rcases hno with z | z; (rw [hx] at z; cases z); (rw [hyy] at z; cases z)
      · have hYY : ∀ (Q : Int32 → SY → Prop), (∀ T2 L2 bo2 bs2 be2 m2, cm_M 64 89 T2 L2 m2 → m2 (49 + 4 * (ng - 1)) = x → m2 (49 + 4 * (ng - 1) + 1) = y → (∀ s, s < 81 → s ≠ 49 + 4 * (ng - 1) → s ≠ 49 + 4 * (ng - 1) + 1 → m2 s = mY s) → (x ≠ y → Q (nI ng) (nI n, nI q, nI ng, nI kk, T2, L2, K, bo2, bs2, be2, fa, fr, fe, hr, ft, hyA, vl', ee, wb)) ∧ (x = y → ng = 1 → Q 0 (nI n, nI q, 0, -1, T2, L2, K, bo2, bs2, be2, fa, fr, fe, hr, upd ft kk 3, hyA, vl', ee, wb)) ∧ (x = y → 1 < ng → Q (nI (ng - 1)) (nI n, nI q, nI (ng - 1), nI kk, T2, L2, K, bo2, bs2, be2, fa, fr, fe, hr, ft, hyA, vl', ee, wb))) → wpY_useLemma Q (nI n, nI q, nI ng, nI kk, T', L', K, bo, bs, be, fa, fr, fe, hr, ft, hyA, vl', ee, wb) (nI jj) v2 := by
          intro Q hQ
          refine hwrap _ (yp_useLem (R := iv_R mX) (s1 := sv) (s2 := sv) (sf := sf) (f := f + 32) (p := p + 32) hS hsY hRU hH hMY hRm k2 k3 k4 (by rw [l1]; exact ⟨w1, w3⟩) (by rw [l2]; exact ⟨w2, w4⟩) (by rw [l1]; exact w5) (by rw [l2]; exact w6) hkk8 (by rw [lf]; exact q1) (by rw [lp]; exact q2) (by rw [lp]; exact q3) hfpY ?_ ?_ ?_ ?_) <;> (first | rw [l1, l2, lf, lp] | rw [lf, lp])
          · intro z
            rcases z with z | z
            · exact absurd z hns
            · exact absurd hsub z
          · exact fun _ _ z => absurd z hz
          · intro _ _ _ z
            rcases z with z | z; (rw [hx] at z; cases z); (rw [hyy] at z; cases z)
          · intro _ _ _
            intro x' y' T2 L2 bo2 bs2 be2 m2 hx' hy' hM2 b1 b2 b3
            rw [hx] at hx'
            rw [hyy] at hy'
            obtain rfl := Option.some.inj hx'
            obtain rfl := Option.some.inj hy'
            exact hQ T2 L2 bo2 bs2 be2 m2 hM2 b1 b2 b3
        refine ⟨fun z => hYY _ (fun T2 L2 bo2 bs2 be2 m2 hM2 b1 b2 b3 => ⟨fun _ => ⟨rfl, (re_fin hI0 k1 k3 (iv_Rok hV w1 w3 q1 q2 q3 (Or.inr hns)) (iv_Rok hV w2 w4 q1 q2 q3 (Or.inr hns)) hx hyy hM1 a1 a2 a3 hM2 b1 b2 b3).1⟩, fun y => absurd y z, fun y => absurd y z⟩), fun z z1 => hYY _ (fun T2 L2 bo2 bs2 be2 m2 hM2 b1 b2 b3 => ⟨fun y => absurd z y, fun _ _ => ⟨rfl, (re_fin hI0 k1 k3 (iv_Rok hV w1 w3 q1 q2 q3 (Or.inr hns)) (iv_Rok hV w2 w4 q1 q2 q3 (Or.inr hns)) hx hyy hM1 a1 a2 a3 hM2 b1 b2 b3).2.1 z1⟩, fun _ y => by omega⟩), fun z z1 => hYY _ (fun T2 L2 bo2 bs2 be2 m2 hM2 b1 b2 b3 => ⟨fun y => absurd z y, fun _ y => by omega, fun _ _ => ⟨rfl, (re_fin hI0 k1 k3 (iv_Rok hV w1 w3 q1 q2 q3 (Or.inr hns)) (iv_Rok hV w2 w4 q1 q2 q3 (Or.inr hns)) hx hyy hM1 a1 a2 a3 hM2 b1 b2 b3).2.2 z1⟩⟩)⟩
    have ha : (0 : Int32) ≤ nI kk := nI_pos' (by omega)
    unfold wpX_useLemma
    dsimp only
    refine br_t ha ?_
    by_cases hneg : v1 < 0
    · unfold wpY_useLemma
      dsimp only
      exact br_t hneg (br_t ha (br_t hneg ⟨rfl, I2⟩))
    · obtain ⟨j, hj, rfl⟩ := nI_of hneg
      refine br_f hneg ?_
      by_cases h8 : j < 8
      · have a8 : ¬ (8 : Int32) ≤ nI j := nI_ge (b := 8) h8 (by decide)
        have a7 : ¬ (7 : Int32) < nI j := nI_nlt (a := 7) (by omega) (by decide)
        obtain ⟨p1, p2, p3⟩ := hP j h8
        have hin : vp_in (nI j) 8 := vp_in_nI h8 (by omega)
        rw [nI_clamp (n := j) (by omega), p1]
        refine br_f a8 ⟨hin, ?_⟩
        cases hpj : pr j with
        | false =>
          have hft : ¬ ft j = 3 := by
            rw [p3, hpj, if_neg (by decide)]
            split
            · split <;> decide
            · decide
          refine br_t rfl ?_
          unfold wpY_useLemma
          dsimp only
          rw [nI_clamp (n := j) (by omega)]
          exact br_t ha (br_f hneg (br_f a7 ⟨hin, br_f hft ⟨rfl, I2⟩⟩))
        | true =>
          have hft : ft j = 3 := by
            rw [p3, hpj]
            rfl
          have hjq : j < q := by
            apply Nat.lt_of_not_le
            intro z
            rw [p2 z] at hpj
            cases hpj
          refine br_f (by decide) ?_
          by_cases h0 : v2 = 0
          · refine br_t h0 (hmain j _ _ hjq (Or.inl ⟨rfl, rfl, h0⟩) (fun Q hQ => ?_))
            unfold wpY_useLemma
            dsimp only
            rw [nI_clamp (n := j) (by omega)]
            exact br_t ha (br_f hneg (br_f a7 ⟨hin, br_t hft (br_t h0 hQ)⟩))
          · refine br_f h0 ?_
            by_cases h1 : v2 = 1
            · refine br_t h1 (hmain j _ _ hjq (Or.inr ⟨rfl, rfl, h1⟩) (fun Q hQ => ?_))
              unfold wpY_useLemma
              dsimp only
              rw [nI_clamp (n := j) (by omega)]
              exact br_t ha (br_f hneg (br_f a7 ⟨hin, br_t hft (br_f h0 (br_t h1 hQ))⟩))
            · unfold wpY_useLemma
              dsimp only
              rw [nI_clamp (n := j) (by omega)]
              exact br_f h1 (br_t ha (br_f hneg (br_f a7 ⟨hin, br_t hft (br_f h0 (br_f h1 ⟨rfl, I2⟩))⟩)))
      · have a8 : (8 : Int32) ≤ nI j := nI_le (a := 8) (by omega) hj
        have a7 : (7 : Int32) < nI j := nI_lt (a := 7) (by omega) hj
        unfold wpY_useLemma
        dsimp only
        exact br_t a8 (br_t ha (br_f hneg (br_t a7 ⟨rfl, I2⟩)))
