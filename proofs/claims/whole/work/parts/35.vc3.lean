/-! 35: simp, useHyp, useLemma -/
section VC
variable {k n q ng kk : Nat} {A : Nat → List Nat} {Z : Nat → Nat} {hy pr : Nat → Bool} {val : Nat → Nat} {e2 : Nat → Nat → Nat} {mX mY : Nat → List Nat} {T L ay gs so E B pv vl el T' L' K bo bs be fa fr fe hr ft hyA vl' ee wb : Nat → Int32}
/-- what a settled goal gives on both sides -/
theorem re_fin {T2 L2 T3 L3 E2 B2 bo3 bs3 be3 : Nat → Int32} {mX2 mY2 : Nat → List Nat} {l r x y : List Nat} {sv : Nat} (hI0 : re_I n q ng A Z hy pr val e2 (nI kk) mX mY T L ay gs so pv vl el T' L' fa fr fe hr ft hyA vl' ee) (k1 : kk < q) (k3 : 1 ≤ ng) (wl : tm_P (tm_sg n A Z) [sv] l ∧ tm_FC (iv_R mX) l) (wr : tm_P (tm_sg n A Z) [sv] r ∧ tm_FC (iv_R mX) r) (hx : tm_N (tm_sg n A Z) (iv_R mX) l = some x) (hyy : tm_N (tm_sg n A Z) (iv_R mX) r = some y)
    (hM2 : cm_M 49 86 T2 L2 mX2) (a1 : mX2 (49 + 4 * (ng - 1)) = x) (a2 : mX2 (49 + 4 * (ng - 1) + 1) = y) (a3 : ∀ s, s < 81 → s ≠ 49 + 4 * (ng - 1) → s ≠ 49 + 4 * (ng - 1) + 1 → mX2 s = mX s) (hM3 : cm_M 64 89 T3 L3 mY2) (b1 : mY2 (49 + 4 * (ng - 1)) = x) (b2 : mY2 (49 + 4 * (ng - 1) + 1) = y) (b3 : ∀ s, s < 81 → s ≠ 49 + 4 * (ng - 1) → s ≠ 49 + 4 * (ng - 1) + 1 → mY2 s = mY s) :
    i_Rel (k + 5) (nI n, nI q, nI kk, nI ng, T2, L2, ay, gs, so, E2, B2, pv, vl, el) (nI n, nI q, nI ng, nI kk, T3, L3, K, bo3, bs3, be3, fa, fr, fe, hr, ft, hyA, vl', ee, wb) ∧ (ng = 1 → i_Rel (k + 5) (nI n, nI q, -1, 0, T2, L2, ay, gs, so, E2, B2, upd pv kk 1, vl, el) (nI n, nI q, 0, -1, T3, L3, K, bo3, bs3, be3, fa, fr, fe, hr, upd ft kk 3, hyA, vl', ee, wb)) ∧ (1 < ng → i_Rel (k + 5) (nI n, nI q, nI kk, nI (ng - 1), T2, L2, ay, gs, so, E2, B2, pv, vl, el) (nI n, nI q, nI (ng - 1), nI kk, T3, L3, K, bo3, bs3, be3, fa, fr, fe, hr, ft, hyA, vl', ee, wb)) := by
  have hS := hI0.2.2.1.1
  have hRU := hI0.2.2.1.2.2.2.2.2.1.1
  have h48 := hI0.2.2.1.2.2.2.1
  have h00 := hI0.2.2.2.1.1
  obtain ⟨x1, x2, x3⟩ := tm_N_ok (tm_sg_GS hS) hRU (fun _ => wl) hx
  obtain ⟨y1, y2, y3⟩ := tm_N_ok (tm_sg_GS hS) hRU (fun _ => wr) hyy
  have hG := re_goal hI0 k3 hM2 (fun s _ b c d => a3 s b c d) hM3 (fun s _ b c d => b3 s b c d) (by rw [a3 0 (by omega) (by omega) (by omega), b3 0 (by omega) (by omega) (by omega)]; exact h00) (by rw [a3 0 (by omega) (by omega) (by omega)]; exact h48) (by rw [a1, b1]) (by rw [a2, b2]) (by rw [a1, a2]; exact ⟨sv, x1, y1, x2, y2, x3, y3⟩)
  refine ⟨re_mk hG, fun z => ?_, fun z => re_mk (re_pop hG z)⟩
  subst z
  exact re_mk (re_done hG k1)
end VC
theorem i_vc_simp {k : Nat} {u : SX} {v : SY} (I : i_Rel k u v) (hk : k + 5 ≤ 2560) : wpX_simp (fun r u' => wpY_simp (fun r' v' => r' = r ∧ i_Rel (k + 5) u' v') v) u := by
  have I2 := I
  obtain ⟨n, q, ng, A, Z, hy, pr, val, e2, act, mX, mY, T, L, ay, gs, so, E, B, pv, vl, el, T', L', K, bo, bs, be, fa, fr, fe, hr, ft, hyA, vl', ee, wb, rfl, rfl, hI⟩ := I
  have hI0 := hI
  obtain ⟨hMX, hMY, hW, hL, hA, hsX, hsY, hP, hH, hHy, hvX, hvY⟩ := hI
  rcases re_act hI0 with ⟨rfl, rfl⟩ | ⟨kk, k1, k2, rfl, k3, k4, k5⟩
  · unfold wpX_simp wpY_simp
    dsimp only
    exact br_f (by decide) (br_f (by decide) ⟨rfl, I2⟩)
  ·
    have hS := hW.1
    have hRU := hW.2.2.2.2.2.1.1
    have hq8 := hW.2.1
    obtain ⟨⟨sv, w1, w2, w3, w4, w5, w6⟩, hyt, hyf⟩ := hW.2.2.2.2.2.2 (ng - 1) (by omega)
    obtain ⟨l1, l2, l3⟩ := hL.2.2.2 (ng - 1) (by omega)
    have hRm : ∀ i, i < 32 → mY (1 + i) = iv_R mX i := hL.2.2.1
    have hV := (tm_sg_GS hS).1
    refine xp_simp k2 hW hsX hMX k3 (fun hno T1 L1 E1 B1 m1 hM1 f1 => ?_) (fun x y T1 L1 E1 B1 m1 hx hyy hM1 a1 a2 a3 => ?_)
    · refine yp_simp (R := iv_R mX) (s1 := sv) (s2 := sv) hS hsY hRU hH hMY hRm k2 k3 k4 (by rw [l1]; exact ⟨w1, w3⟩) (by rw [l2]; exact ⟨w2, w4⟩) (by rw [l1]; exact w5) (by rw [l2]; exact w6) ?_ ?_ <;> rw [l1, l2]
      · exact fun _ T2 L2 bo2 bs2 be2 m2 hM2 f2 => ⟨rfl, re_mk (re_keep hI0 hM1 f1 hM2 f2)⟩
      · intro x y T2 L2 bo2 bs2 be2 m2 hx hyy
        rcases hno with z | z
        · rw [hx] at z; cases z
        · rw [hyy] at z; cases z
    · have hYY : ∀ (Q : Int32 → SY → Prop), (∀ T2 L2 bo2 bs2 be2 m2, cm_M 64 89 T2 L2 m2 → m2 (49 + 4 * (ng - 1)) = x → m2 (49 + 4 * (ng - 1) + 1) = y → (∀ s, s < 81 → s ≠ 49 + 4 * (ng - 1) → s ≠ 49 + 4 * (ng - 1) + 1 → m2 s = mY s) → (x ≠ y → Q (nI ng) (nI n, nI q, nI ng, nI kk, T2, L2, K, bo2, bs2, be2, fa, fr, fe, hr, ft, hyA, vl', ee, wb)) ∧ (x = y → ng = 1 → Q 0 (nI n, nI q, 0, -1, T2, L2, K, bo2, bs2, be2, fa, fr, fe, hr, upd ft kk 3, hyA, vl', ee, wb)) ∧ (x = y → 1 < ng → Q (nI (ng - 1)) (nI n, nI q, nI (ng - 1), nI kk, T2, L2, K, bo2, bs2, be2, fa, fr, fe, hr, ft, hyA, vl', ee, wb))) → wpY_simp Q (nI n, nI q, nI ng, nI kk, T', L', K, bo, bs, be, fa, fr, fe, hr, ft, hyA, vl', ee, wb) := by
        intro Q hQ
        refine yp_simp (R := iv_R mX) (s1 := sv) (s2 := sv) hS hsY hRU hH hMY hRm k2 k3 k4 (by rw [l1]; exact ⟨w1, w3⟩) (by rw [l2]; exact ⟨w2, w4⟩) (by rw [l1]; exact w5) (by rw [l2]; exact w6) ?_ ?_ <;> rw [l1, l2]
        · intro z
          rcases z with z | z
          · rw [hx] at z; cases z
          · rw [hyy] at z; cases z
        · intro x' y' T2 L2 bo2 bs2 be2 m2 hx' hy' hM2 b1 b2 b3
          rw [hx] at hx'
          rw [hyy] at hy'
          obtain rfl := Option.some.inj hx'
          obtain rfl := Option.some.inj hy'
          exact hQ T2 L2 bo2 bs2 be2 m2 hM2 b1 b2 b3
      refine ⟨fun z => hYY _ (fun T2 L2 bo2 bs2 be2 m2 hM2 b1 b2 b3 => ⟨fun _ => ⟨rfl, (re_fin hI0 k1 k3 ⟨w1, w3⟩ ⟨w2, w4⟩ hx hyy hM1 a1 a2 a3 hM2 b1 b2 b3).1⟩, fun y => absurd y z, fun y => absurd y z⟩), fun z z1 => hYY _ (fun T2 L2 bo2 bs2 be2 m2 hM2 b1 b2 b3 => ⟨fun y => absurd z y, fun _ _ => ⟨rfl, (re_fin hI0 k1 k3 ⟨w1, w3⟩ ⟨w2, w4⟩ hx hyy hM1 a1 a2 a3 hM2 b1 b2 b3).2.1 z1⟩, fun _ y => by omega⟩), fun z z1 => hYY _ (fun T2 L2 bo2 bs2 be2 m2 hM2 b1 b2 b3 => ⟨fun y => absurd z y, fun _ y => by omega, fun _ _ => ⟨rfl, (re_fin hI0 k1 k3 ⟨w1, w3⟩ ⟨w2, w4⟩ hx hyy hM1 a1 a2 a3 hM2 b1 b2 b3).2.2 z1⟩⟩)⟩
