/-! 32: the relation -/
def re_A (q ng : Nat) (act : Int32) (pr : Nat → Bool) : Prop := (act = -1 ∧ ng = 0) ∨ (∃ k, k < q ∧ act = nI k ∧ 1 ≤ ng ∧ pr k = false)
def re_P (q : Nat) (act : Int32) (pr : Nat → Bool) (pv ft : Nat → Int32) : Prop := ∀ k, k < 8 → (pv k = if pr k = true then 1 else 0) ∧ (q ≤ k → pr k = false) ∧ (ft k = if pr k = true then 3 else if k < q then (if act = nI k then 2 else 1) else 0)
def re_H (ng : Nat) (hy : Nat → Bool) (hyA : Nat → Int32) : Prop := ∀ j, j < ng → hyA j = if hy j = true then 1 else 0
def re_L (ng : Nat) (hy : Nat → Bool) (mX mY : Nat → List Nat) : Prop := mY 0 = mX 0 ∧ (∀ i, i < 16 → mY (33 + i) = mX (1 + i)) ∧ (∀ i, i < 32 → mY (1 + i) = mX (17 + i)) ∧ (∀ j, j < ng → mY (49 + 4 * j) = mX (49 + 4 * j) ∧ mY (49 + 4 * j + 1) = mX (49 + 4 * j + 1) ∧ (hy j = true → mY (49 + 4 * j + 2) = mX (49 + 4 * j + 2) ∧ mY (49 + 4 * j + 3) = mX (49 + 4 * j + 3)))
def re_I (n q ng : Nat) (A : Nat → List Nat) (Z : Nat → Nat) (hy pr : Nat → Bool) (val : Nat → Nat) (e2 : Nat → Nat → Nat) (act : Int32) (mX mY : Nat → List Nat) (T L ay gs so pv vl el T' L' fa fr fe hr ft hyA vl' ee : Nat → Int32) : Prop :=
  cm_M 49 86 T L mX ∧ cm_M 64 89 T' L' mY ∧ iv_W n A Z q ng hy mX ∧ re_L ng hy mX mY ∧ re_A q ng act pr ∧ sg_X (tm_sg n A Z) ay gs so ∧ sg_Y n A Z fa fr fe ∧ re_P q act pr pv ft ∧ yr_H (iv_R mX) hr ∧ re_H ng hy hyA ∧ ev_X val e2 vl el ∧ ev_Y val e2 vl' ee
def i_Rel (_ : Nat) (u : SX) (v : SY) : Prop := ∃ (n q ng : Nat) (A : Nat → List Nat) (Z : Nat → Nat) (hy pr : Nat → Bool) (val : Nat → Nat) (e2 : Nat → Nat → Nat) (act : Int32) (mX mY : Nat → List Nat) (T L ay gs so E B pv vl el T' L' K bo bs be fa fr fe hr ft hyA vl' ee wb : Nat → Int32), u = (nI n, nI q, act, nI ng, T, L, ay, gs, so, E, B, pv, vl, el) ∧ v = (nI n, nI q, nI ng, act, T', L', K, bo, bs, be, fa, fr, fe, hr, ft, hyA, vl', ee, wb) ∧ re_I n q ng A Z hy pr val e2 act mX mY T L ay gs so pv vl el T' L' fa fr fe hr ft hyA vl' ee
theorem i_up {k : Nat} {u : SX} {v : SY} (h : i_Rel k u v) : i_Rel (k + 5) u v := h
section RE
variable {k n q ng : Nat} {A : Nat → List Nat} {Z : Nat → Nat} {hy pr : Nat → Bool} {val : Nat → Nat} {e2 : Nat → Nat → Nat} {act : Int32} {mX mY : Nat → List Nat} {T L ay gs so E B pv vl el T' L' K bo bs be fa fr fe hr ft hyA vl' ee wb : Nat → Int32}
theorem re_mk (h : re_I n q ng A Z hy pr val e2 act mX mY T L ay gs so pv vl el T' L' fa fr fe hr ft hyA vl' ee) : i_Rel k (nI n, nI q, act, nI ng, T, L, ay, gs, so, E, B, pv, vl, el) (nI n, nI q, nI ng, act, T', L', K, bo, bs, be, fa, fr, fe, hr, ft, hyA, vl', ee, wb) :=
  ⟨n, q, ng, A, Z, hy, pr, val, e2, act, mX, mY, T, L, ay, gs, so, E, B, pv, vl, el, T', L', K, bo, bs, be, fa, fr, fe, hr, ft, hyA, vl', ee, wb, rfl, rfl, h⟩
theorem re_Rext {m m' : Nat → List Nat} (h : ∀ s, 17 ≤ s → s < 49 → m' s = m s) : ∀ i, i < 32 → iv_R m' i = iv_R m i := fun i hi => h _ (by omega) (by omega)
theorem re_Hext {R R' : Nat → List Nat} (h : ∀ i, i < 32 → R' i = R i) (hH : yr_H R hr) : yr_H R' hr := by
  intro f k hf hk
  rw [h _ (by omega)]
  exact hH f k hf hk
/-- scratch alone has changed, or the buffer -/
theorem re_keep0 {T2 L2 T2' L2' : Nat → Int32} {mX2 mY2 : Nat → List Nat} (h : re_I n q ng A Z hy pr val e2 act mX mY T L ay gs so pv vl el T' L' fa fr fe hr ft hyA vl' ee) (hX : cm_M 49 86 T2 L2 mX2) (fX : ∀ s, 1 ≤ s → s < 81 → mX2 s = mX s) (hY : cm_M 64 89 T2' L2' mY2) (fY : ∀ s, 1 ≤ s → s < 81 → mY2 s = mY s) (h0 : mY2 0 = mX2 0) (hl : (mX2 0).length ≤ 48) :
    re_I n q ng A Z hy pr val e2 act mX2 mY2 T2 L2 ay gs so pv vl el T2' L2' fa fr fe hr ft hyA vl' ee := by
  obtain ⟨_, _, hW, hL, hA, hsX, hsY, hP, hH, hHy, hvX, hvY⟩ := h
  have hg8 : ng ≤ 8 := hW.2.2.1
  refine ⟨hX, hY, iv_W_ext fX hl hW, ⟨h0, fun i hi => ?_, fun i hi => ?_, fun j hj => ?_⟩, hA, hsX, hsY, hP, re_Hext (re_Rext (fun s a b => fX s (by omega) (by omega))) hH, hHy, hvX, hvY⟩
  · rw [fY _ (by omega) (by omega), fX _ (by omega) (by omega)]
    exact hL.2.1 i hi
  · rw [fY _ (by omega) (by omega), fX _ (by omega) (by omega)]
    exact hL.2.2.1 i hi
  · rw [fY _ (by omega) (by omega), fX _ (by omega) (by omega), fY _ (by omega) (by omega), fX _ (by omega) (by omega), fY _ (by omega) (by omega), fX _ (by omega) (by omega), fY _ (by omega) (by omega), fX _ (by omega) (by omega)]
    exact hL.2.2.2 j hj
theorem re_keep {T2 L2 T2' L2' : Nat → Int32} {mX2 mY2 : Nat → List Nat} (h : re_I n q ng A Z hy pr val e2 act mX mY T L ay gs so pv vl el T' L' fa fr fe hr ft hyA vl' ee) (hX : cm_M 49 86 T2 L2 mX2) (fX : ∀ s, s < 81 → mX2 s = mX s) (hY : cm_M 64 89 T2' L2' mY2) (fY : ∀ s, s < 81 → mY2 s = mY s) :
    re_I n q ng A Z hy pr val e2 act mX2 mY2 T2 L2 ay gs so pv vl el T2' L2' fa fr fe hr ft hyA vl' ee := by
  refine re_keep0 h hX (fun s a b => fX s b) hY (fun s a b => fY s b) ?_ ?_
  · rw [fX 0 (by omega), fY 0 (by omega)]
    exact h.2.2.2.1.1
  · rw [fX 0 (by omega)]
    exact h.2.2.1.2.2.2.1
/-- new sides of the top goal -/
theorem re_goal {T2 L2 T2' L2' : Nat → Int32} {mX2 mY2 : Nat → List Nat} (h : re_I n q ng A Z hy pr val e2 act mX mY T L ay gs so pv vl el T' L' fa fr fe hr ft hyA vl' ee) (hg0 : 1 ≤ ng) (hX : cm_M 49 86 T2 L2 mX2) (fX : ∀ s, 1 ≤ s → s < 81 → s ≠ 49 + 4 * (ng - 1) → s ≠ 49 + 4 * (ng - 1) + 1 → mX2 s = mX s) (hY : cm_M 64 89 T2' L2' mY2) (fY : ∀ s, 1 ≤ s → s < 81 → s ≠ 49 + 4 * (ng - 1) → s ≠ 49 + 4 * (ng - 1) + 1 → mY2 s = mY s)
    (h0 : mY2 0 = mX2 0) (hl : (mX2 0).length ≤ 48) (e1 : mY2 (49 + 4 * (ng - 1)) = mX2 (49 + 4 * (ng - 1))) (e2' : mY2 (49 + 4 * (ng - 1) + 1) = mX2 (49 + 4 * (ng - 1) + 1)) (hE : iv_E (tm_sg n A Z) (iv_R mX) (mX2 (49 + 4 * (ng - 1))) (mX2 (49 + 4 * (ng - 1) + 1))) :
    re_I n q ng A Z hy pr val e2 act mX2 mY2 T2 L2 ay gs so pv vl el T2' L2' fa fr fe hr ft hyA vl' ee := by
  obtain ⟨_, _, hW, hL, hA, hsX, hsY, hP, hH, hHy, hvX, hvY⟩ := h
  have hg8 : ng ≤ 8 := hW.2.2.1
  have hWg := hW.2.2.2.2.2.2
  refine ⟨hX, hY, iv_W_goals (fun s a b => fX s a (by omega) (by omega) (by omega)) hl hg8 hW (fun j hj => ?_), ⟨h0, fun i hi => ?_, fun i hi => ?_, fun j hj => ?_⟩, hA, hsX, hsY, hP, re_Hext (re_Rext (fun s a b => fX s (by omega) (by omega) (by omega) (by omega))) hH, hHy, hvX, hvY⟩
  · obtain ⟨a1, a2, a3⟩ := hWg j hj
    rw [fX (49 + 4 * j + 2) (by omega) (by omega) (by omega) (by omega), fX (49 + 4 * j + 3) (by omega) (by omega) (by omega) (by omega)]
    refine ⟨?_, a2, a3⟩
    by_cases q9 : j = ng - 1
    · rw [q9]
      exact hE
    · rw [fX (49 + 4 * j) (by omega) (by omega) (by omega) (by omega), fX (49 + 4 * j + 1) (by omega) (by omega) (by omega) (by omega)]
      exact a1
  · rw [fY _ (by omega) (by omega) (by omega) (by omega), fX _ (by omega) (by omega) (by omega) (by omega)]
    exact hL.2.1 i hi
  · rw [fY _ (by omega) (by omega) (by omega) (by omega), fX _ (by omega) (by omega) (by omega) (by omega)]
    exact hL.2.2.1 i hi
  · obtain ⟨a1, a2, a3⟩ := hL.2.2.2 j hj
    rw [fX (49 + 4 * j + 2) (by omega) (by omega) (by omega) (by omega), fX (49 + 4 * j + 3) (by omega) (by omega) (by omega) (by omega), fY (49 + 4 * j + 2) (by omega) (by omega) (by omega) (by omega), fY (49 + 4 * j + 3) (by omega) (by omega) (by omega) (by omega)]
    by_cases q9 : j = ng - 1
    · rw [q9] at a3 ⊢
      exact ⟨e1, e2', a3⟩
    · rw [fX (49 + 4 * j) (by omega) (by omega) (by omega) (by omega), fX (49 + 4 * j + 1) (by omega) (by omega) (by omega) (by omega), fY (49 + 4 * j) (by omega) (by omega) (by omega) (by omega), fY (49 + 4 * j + 1) (by omega) (by omega) (by omega) (by omega)]
      exact ⟨a1, a2, a3⟩
/-- the top goal goes -/
theorem re_pop (h : re_I n q ng A Z hy pr val e2 act mX mY T L ay gs so pv vl el T' L' fa fr fe hr ft hyA vl' ee) (hg1 : 1 < ng) : re_I n q (ng - 1) A Z hy pr val e2 act mX mY T L ay gs so pv vl el T' L' fa fr fe hr ft hyA vl' ee := by
  obtain ⟨hX, hY, ⟨w1, w2, w3, w4, w5, w6, w7⟩, ⟨l1, l2, l3, l4⟩, hA, hsX, hsY, hP, hH, hHy, hvX, hvY⟩ := h
  refine ⟨hX, hY, ⟨w1, w2, by omega, w4, w5, w6, fun j hj => w7 j (by omega)⟩, ⟨l1, l2, l3, fun j hj => l4 j (by omega)⟩, ?_, hsX, hsY, hP, hH, fun j hj => hHy j (by omega), hvX, hvY⟩
  rcases hA with ⟨_, z⟩ | ⟨k, k1, k2, k3, k4⟩
  · omega
  · exact Or.inr ⟨k, k1, k2, by omega, k4⟩
/-- the last goal goes -/
theorem re_done {kk : Nat} (h : re_I n q 1 A Z hy pr val e2 (nI kk) mX mY T L ay gs so pv vl el T' L' fa fr fe hr ft hyA vl' ee) (hk : kk < q) : re_I n q 0 A Z hy (fun j => if j = kk then true else pr j) val e2 (-1) mX mY T L ay gs so (upd pv kk 1) vl el T' L' fa fr fe hr (upd ft kk 3) hyA vl' ee := by
  obtain ⟨hX, hY, ⟨w1, w2, w3, w4, w5, w6, w7⟩, ⟨l1, l2, l3, l4⟩, hA, hsX, hsY, hP, hH, hHy, hvX, hvY⟩ := h
  refine ⟨hX, hY, ⟨w1, w2, by omega, w4, w5, w6, fun j hj => absurd hj (Nat.not_lt_zero _)⟩, ⟨l1, l2, l3, fun j hj => absurd hj (Nat.not_lt_zero _)⟩, Or.inl ⟨rfl, rfl⟩, hsX, hsY, ?_, hH, fun j hj => absurd hj (Nat.not_lt_zero _), hvX, hvY⟩
  intro j hj
  obtain ⟨p1, p2, p3⟩ := hP j hj
  by_cases e : j = kk
  · subst e
    rw [cm_us, cm_us]
    have hpr : (fun i => if i = j then true else pr i) j = true := if_pos rfl
    refine ⟨(if_pos hpr).symm, fun z => by omega, (if_pos hpr).symm⟩
  · rw [cm_un e, cm_un e]
    have hpr : (fun i => if i = kk then true else pr i) j = pr j := if_neg e
    by_cases hpj : pr j = true
    · have h2 : (fun i => if i = kk then true else pr i) j = true := hpr.trans hpj
      rw [if_pos hpj] at p1 p3
      exact ⟨p1.trans (if_pos h2).symm, fun z => hpr.trans (p2 z), p3.trans (if_pos h2).symm⟩
    · have h2 : ¬ (fun i => if i = kk then true else pr i) j = true := fun z => hpj (hpr.symm.trans z)
      rw [if_neg hpj] at p1 p3
      refine ⟨p1.trans (if_neg h2).symm, fun z => hpr.trans (p2 z), p3.trans (Eq.trans ?_ (if_neg h2).symm)⟩
      by_cases hjq : j < q
      · rw [if_pos hjq, if_pos hjq, if_neg (fun z => e ((nI_eq (by omega) (by omega)).mp z).symm), if_neg (fun z => xi_neg (by omega) z.symm)]
      · rw [if_neg hjq, if_neg hjq]
theorem re_act (h : re_I n q ng A Z hy pr val e2 act mX mY T L ay gs so pv vl el T' L' fa fr fe hr ft hyA vl' ee) : (act = -1 ∧ ng = 0) ∨ (∃ k, k < q ∧ k < 8 ∧ act = nI k ∧ 1 ≤ ng ∧ ng ≤ 8 ∧ pr k = false) := by
  have hq := h.2.2.1.2.1
  have hg := h.2.2.1.2.2.1
  rcases h.2.2.2.2.1 with z | ⟨k, k1, k2, k3, k4⟩
  · exact Or.inl z
  · exact Or.inr ⟨k, k1, by omega, k2, k3, hg, k4⟩
end RE
