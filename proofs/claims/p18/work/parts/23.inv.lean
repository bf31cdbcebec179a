/-! 23: what every state that the law makes keeps -/
def li_A (q ng : Nat) (act : Int32) (pr : Nat → Bool) : Prop := (act = -1 ∧ ng = 0) ∨ (∃ k, k < q ∧ act = nI k ∧ 1 ≤ ng ∧ pr k = false)
def li_P (q : Nat) (pr : Nat → Bool) (pv : Nat → Int32) : Prop := ∀ k, k < 8 → (pv k = if pr k = true then 1 else 0) ∧ (q ≤ k → pr k = false)
def li_V (g : tm_G) (pr : Nat → Bool) (m : Nat → List Nat) : Prop := ∀ k, k < 8 → pr k = true → sd_V g (m (1 + 2 * k)) (m (1 + 2 * k + 1))
def li_F (g : tm_G) (ng : Nat) (act : Int32) (m : Nat → List Nat) : Prop := ∀ k, k < 8 → act = nI k → (∀ j, j < ng → sd_G g m (49 + 4 * j)) → sd_V g (m (1 + 2 * k)) (m (1 + 2 * k + 1))
def li_I (n q ng : Nat) (A : Nat → List Nat) (Z : Nat → Nat) (hy pr : Nat → Bool) (val : Nat → Nat) (e2 : Nat → Nat → Nat) (act : Int32) (m : Nat → List Nat) (T L ay gs so pv vl el : Nat → Int32) : Prop :=
  mm_M 49 86 T L m ∧ iv_W n A Z q ng hy m ∧ li_A q ng act pr ∧ sg_X (tm_sg n A Z) ay gs so ∧ li_P q pr pv ∧ ev_X val e2 vl el ∧ se_RV (tm_sg n A Z) (iv_R m) ∧ li_V (tm_sg n A Z) pr m ∧ li_F (tm_sg n A Z) ng act m
def li_S (n : Nat) (A : Nat → List Nat) (Z : Nat → Nat) (M : Nat → Prop) (C : (Nat → List Nat) → Prop) (u : St1) : Prop := ∃ (q ng : Nat) (hy pr : Nat → Bool) (val : Nat → Nat) (e2 : Nat → Nat → Nat) (act : Int32) (m : Nat → List Nat) (T L ay gs so E B pv vl el : Nat → Int32), u = (nI n, nI q, act, nI ng, T, L, ay, gs, so, E, B, pv, vl, el) ∧ (∀ k, k < 8 → M k → pr k = true) ∧ C m ∧ li_I n q ng A Z hy pr val e2 act m T L ay gs so pv vl el
abbrev li_T (n : Nat) (A : Nat → List Nat) (Z : Nat → Nat) (M : Nat → Prop) (u : St1) : Prop := li_S n A Z M (fun _ => True) u
theorem li_imp {n : Nat} {A : Nat → List Nat} {Z : Nat → Nat} {M : Nat → Prop} {C D : (Nat → List Nat) → Prop} {u : St1} (h : li_S n A Z M C u) (hi : ∀ m, C m → D m) : li_S n A Z M D u := by
  obtain ⟨q, ng, hy, pr, val, e2, act, m, T, L, ay, gs, so, E, B, pv, vl, el, e, hpr, hC, hI⟩ := h
  exact ⟨q, ng, hy, pr, val, e2, act, m, T, L, ay, gs, so, E, B, pv, vl, el, e, hpr, hi m hC, hI⟩
theorem li_RVx {g : tm_G} {R R' : Nat → List Nat} (h : ∀ i, i < 32 → R' i = R i) (hR : se_RV g R) : se_RV g R' := by
  intro f k hf hk hne
  rw [h _ (by omega)] at hne
  rw [h (4 * f + 2 * k) (by omega), h (4 * f + 2 * k + 1) (by omega)]
  exact hR f k hf hk hne
theorem li_Vx {g : tm_G} {pr : Nat → Bool} {m m' : Nat → List Nat} (h : ∀ s, 1 ≤ s → s < 17 → m' s = m s) (hV : li_V g pr m) : li_V g pr m' := by
  intro k hk hp
  rw [h (1 + 2 * k) (by omega) (by omega), h (1 + 2 * k + 1) (by omega) (by omega)]
  exact hV k hk hp
theorem li_Fx {g : tm_G} {ng ng' : Nat} {act : Int32} {m m' : Nat → List Nat} (h : ∀ s, 1 ≤ s → s < 17 → m' s = m s) (hi : (∀ j, j < ng' → sd_G g m' (49 + 4 * j)) → ∀ j, j < ng → sd_G g m (49 + 4 * j)) (hF : li_F g ng act m) : li_F g ng' act m' := by
  intro k hk ha hj
  rw [h (1 + 2 * k) (by omega) (by omega), h (1 + 2 * k + 1) (by omega) (by omega)]
  exact hF k hk ha (hi hj)
theorem li_Gx {g : tm_G} {m m' : Nat → List Nat} {s : Nat} (h0 : m' s = m s) (h1 : m' (s + 1) = m (s + 1)) (h2 : m' (s + 2) = m (s + 2)) (h3 : m' (s + 3) = m (s + 3)) (h : sd_G g m' s) : sd_G g m s := by
  intro rho hh
  have k := h rho
  rw [h0, h1, h2, h3] at k
  exact k hh
section LI
variable {n q ng kk : Nat} {A : Nat → List Nat} {Z : Nat → Nat} {M : Nat → Prop} {C : (Nat → List Nat) → Prop} {hy pr : Nat → Bool} {val : Nat → Nat} {e2 : Nat → Nat → Nat} {act : Int32} {m m2 : Nat → List Nat} {T L ay gs so E B pv vl el T2 L2 E2 B2 : Nat → Int32}
theorem li_mkC (hpr : ∀ k, k < 8 → M k → pr k = true) (hC : C m) (h : li_I n q ng A Z hy pr val e2 act m T L ay gs so pv vl el) : li_S n A Z M C (nI n, nI q, act, nI ng, T, L, ay, gs, so, E, B, pv, vl, el) :=
  ⟨q, ng, hy, pr, val, e2, act, m, T, L, ay, gs, so, E, B, pv, vl, el, rfl, hpr, hC, h⟩
theorem li_mk (hpr : ∀ k, k < 8 → M k → pr k = true) (h : li_I n q ng A Z hy pr val e2 act m T L ay gs so pv vl el) : li_T n A Z M (nI n, nI q, act, nI ng, T, L, ay, gs, so, E, B, pv, vl, el) := li_mkC hpr trivial h
theorem li_keep (h : li_I n q ng A Z hy pr val e2 act m T L ay gs so pv vl el) (hM : mm_M 49 86 T2 L2 m2) (f : ∀ s, 1 ≤ s → s < 81 → m2 s = m s) (hl : (m2 0).length ≤ 48) : li_I n q ng A Z hy pr val e2 act m2 T2 L2 ay gs so pv vl el := by
  obtain ⟨_, hW, hA, hg, hP, hv, hR, hV, hF⟩ := h
  have hg8 : ng ≤ 8 := hW.2.2.1
  refine ⟨hM, iv_W_ext f hl hW, hA, hg, hP, hv, li_RVx (fun i hi => f (17 + i) (by omega) (by omega)) hR, li_Vx (fun s a b => f s a (by omega)) hV, li_Fx (fun s a b => f s a (by omega)) (fun hj j h => ?_) hF⟩
  exact li_Gx (f _ (by omega) (by omega)) (f _ (by omega) (by omega)) (f _ (by omega) (by omega)) (f _ (by omega) (by omega)) (hj j h)
theorem li_keep0 (h : li_I n q ng A Z hy pr val e2 act m T L ay gs so pv vl el) (hM : mm_M 49 86 T2 L2 m2) (f : ∀ s, s < 81 → m2 s = m s) : li_I n q ng A Z hy pr val e2 act m2 T2 L2 ay gs so pv vl el :=
  li_keep h hM (fun s _ b => f s b) (by rw [f 0 (by omega)]; exact h.2.1.2.2.2.1)
theorem li_goal (h : li_I n q ng A Z hy pr val e2 act m T L ay gs so pv vl el) (hg0 : 1 ≤ ng) (hM : mm_M 49 86 T2 L2 m2) (f : ∀ s, 1 ≤ s → s < 81 → s ≠ 49 + 4 * (ng - 1) → s ≠ 49 + 4 * (ng - 1) + 1 → m2 s = m s) (hl : (m2 0).length ≤ 48) (hE : iv_E (tm_sg n A Z) (iv_R m) (m2 (49 + 4 * (ng - 1))) (m2 (49 + 4 * (ng - 1) + 1))) (hs : sd_G (tm_sg n A Z) m2 (49 + 4 * (ng - 1)) → sd_G (tm_sg n A Z) m (49 + 4 * (ng - 1))) : li_I n q ng A Z hy pr val e2 act m2 T2 L2 ay gs so pv vl el := by
  obtain ⟨_, hW, hA, hg, hP, hv, hR, hV, hF⟩ := h
  have hg8 : ng ≤ 8 := hW.2.2.1
  have hWg := hW.2.2.2.2.2.2
  refine ⟨hM, iv_W_goals (fun s a b => f s a (by omega) (by omega) (by omega)) hl hg8 hW (fun j hj => ?_), hA, hg, hP, hv, li_RVx (fun i hi => f (17 + i) (by omega) (by omega) (by omega) (by omega)) hR, li_Vx (fun s a b => f s a (by omega) (by omega) (by omega)) hV, li_Fx (fun s a b => f s a (by omega) (by omega) (by omega)) (fun hj => ?_) hF⟩
  · obtain ⟨a1, a2, a3⟩ := hWg j hj
    rw [f (49 + 4 * j + 2) (by omega) (by omega) (by omega) (by omega), f (49 + 4 * j + 3) (by omega) (by omega) (by omega) (by omega)]
    refine ⟨?_, a2, a3⟩
    by_cases q9 : j = ng - 1
    · rw [q9]
      exact hE
    · rw [f (49 + 4 * j) (by omega) (by omega) (by omega) (by omega), f (49 + 4 * j + 1) (by omega) (by omega) (by omega) (by omega)]
      exact a1
  · exact sd_step (ng := ng) (ng' := ng) (by omega) (fun s a b => f s (by omega) (by omega) (by omega) (by omega)) (fun h => hs (h (ng - 1) (Nat.le_refl _) (by omega))) id hj
theorem li_pop (h : li_I n q ng A Z hy pr val e2 act m T L ay gs so pv vl el) (hg1 : 1 < ng) (hs : sd_G (tm_sg n A Z) m (49 + 4 * (ng - 1))) : li_I n q (ng - 1) A Z hy pr val e2 act m T L ay gs so pv vl el := by
  obtain ⟨hM, ⟨w1, w2, w3, w4, w5, w6, w7⟩, hA, hg, hP, hv, hR, hV, hF⟩ := h
  refine ⟨hM, ⟨w1, w2, by omega, w4, w5, w6, fun j hj => w7 j (by omega)⟩, ?_, hg, hP, hv, hR, hV, li_Fx (fun _ _ _ => rfl) (fun hj => ?_) hF⟩
  · rcases hA with ⟨_, z⟩ | ⟨k, k1, k2, k3, k4⟩
    · omega
    · exact Or.inr ⟨k, k1, k2, by omega, k4⟩
  · exact sd_step (ng := ng) (ng' := ng - 1) (Nat.le_refl _) (fun _ _ _ => rfl) (fun _ => hs) id hj
theorem li_done (h : li_I n q 1 A Z hy pr val e2 (nI kk) m T L ay gs so pv vl el) (hk : kk < q) (hs : sd_G (tm_sg n A Z) m 49) : li_I n q 0 A Z hy (fun j => if j = kk then true else pr j) val e2 (-1) m T L ay gs so (upd pv kk 1) vl el := by
  obtain ⟨hM, ⟨w1, w2, w3, w4, w5, w6, w7⟩, hA, hg, hP, hv, hR, hV, hF⟩ := h
  refine ⟨hM, ⟨w1, w2, by omega, w4, w5, w6, fun j hj => absurd hj (Nat.not_lt_zero _)⟩, Or.inl ⟨rfl, rfl⟩, hg, ?_, hv, hR, ?_, ?_⟩
  · intro j hj
    obtain ⟨p1, p2⟩ := hP j hj
    by_cases e : j = kk
    · subst e
      rw [mm_us]
      have hpr : (fun i => if i = j then true else pr i) j = true := if_pos rfl
      exact ⟨(if_pos hpr).symm, fun z => by omega⟩
    · rw [mm_un e]
      have hpr : (fun i => if i = kk then true else pr i) j = pr j := if_neg e
      refine ⟨?_, fun z => hpr.trans (p2 z)⟩
      rw [p1]
      by_cases hpj : pr j = true
      · rw [if_pos hpj]
        exact (if_pos (hpr.trans hpj)).symm
      · rw [if_neg hpj]
        exact (if_neg (fun z => hpj (hpr.symm.trans z))).symm
  · intro j hj hp
    by_cases e : j = kk
    · subst e
      refine hF j hj rfl (fun i hi => ?_)
      rw [show i = 0 by omega]
      exact hs
    · exact hV j hj ((show (fun i => if i = kk then true else pr i) j = pr j from if_neg e).symm.trans hp)
  · intro j hj z
    exact absurd z.symm (xi_neg (by omega))
theorem li_act (h : li_I n q ng A Z hy pr val e2 act m T L ay gs so pv vl el) : (act = -1 ∧ ng = 0) ∨ (∃ k, k < q ∧ k < 8 ∧ act = nI k ∧ 1 ≤ ng ∧ ng ≤ 8 ∧ pr k = false) := by
  have hq := h.2.1.2.1
  have hg := h.2.1.2.2.1
  rcases h.2.2.1 with z | ⟨k, k1, k2, k3, k4⟩
  · exact Or.inl z
  · exact Or.inr ⟨k, k1, by omega, k2, k3, hg, k4⟩
theorem li_fin {post : Int32 → St1 → Prop} {l r x y : List Nat} {sv : Nat} (hp : ∀ r u, li_T n A Z M u → post r u) (hpr : ∀ k, k < 8 → M k → pr k = true) (hI0 : li_I n q ng A Z hy pr val e2 (nI kk) m T L ay gs so pv vl el) (k1 : kk < q) (k3 : 1 ≤ ng) (wl : tm_P (tm_sg n A Z) [sv] l ∧ tm_FC (iv_R m) l) (wr : tm_P (tm_sg n A Z) [sv] r ∧ tm_FC (iv_R m) r) (hx : tm_N (tm_sg n A Z) (iv_R m) l = some x) (hyy : tm_N (tm_sg n A Z) (iv_R m) r = some y)
    (ul : ∀ rho, se_v (tm_sg n A Z) rho (m (49 + 4 * (ng - 1) + 2)) = se_v (tm_sg n A Z) rho (m (49 + 4 * (ng - 1) + 3)) → se_v (tm_sg n A Z) rho l = se_v (tm_sg n A Z) rho (m (49 + 4 * (ng - 1)))) (ur : ∀ rho, se_v (tm_sg n A Z) rho (m (49 + 4 * (ng - 1) + 2)) = se_v (tm_sg n A Z) rho (m (49 + 4 * (ng - 1) + 3)) → se_v (tm_sg n A Z) rho r = se_v (tm_sg n A Z) rho (m (49 + 4 * (ng - 1) + 1)))
    (hM2 : mm_M 49 86 T2 L2 m2) (a1 : m2 (49 + 4 * (ng - 1)) = x) (a2 : m2 (49 + 4 * (ng - 1) + 1) = y) (a3 : ∀ s, s < 81 → s ≠ 49 + 4 * (ng - 1) → s ≠ 49 + 4 * (ng - 1) + 1 → m2 s = m s) :
    (x ≠ y → post (nI ng) (nI n, nI q, nI kk, nI ng, T2, L2, ay, gs, so, E2, B2, pv, vl, el)) ∧ (x = y → ng = 1 → post 0 (nI n, nI q, -1, 0, T2, L2, ay, gs, so, E2, B2, upd pv kk 1, vl, el)) ∧ (x = y → 1 < ng → post (nI (ng - 1)) (nI n, nI q, nI kk, nI (ng - 1), T2, L2, ay, gs, so, E2, B2, pv, vl, el)) := by
  have hS := hI0.2.1.1
  have hg8 := hI0.2.1.2.2.1
  have hRU := hI0.2.1.2.2.2.2.2.1.1
  have h48 := hI0.2.1.2.2.2.1
  have hRV := hI0.2.2.2.2.2.2.1
  obtain ⟨x1, x2, x3⟩ := tm_N_ok (tm_sg_GS hS) hRU (fun _ => wl) hx
  obtain ⟨y1, y2, y3⟩ := tm_N_ok (tm_sg_GS hS) hRU (fun _ => wr) hyy
  obtain ⟨ex, _⟩ := se_N (tm_sg_GS hS) hRU hRV wl.1 wl.2 hx
  obtain ⟨ey, _⟩ := se_N (tm_sg_GS hS) hRU hRV wr.1 wr.2 hyy
  have hG := li_goal hI0 k3 hM2 (fun s _ b c d => a3 s b c d) (by rw [a3 0 (by omega) (by omega) (by omega)]; exact h48) (by rw [a1, a2]; exact ⟨sv, x1, y1, x2, y2, x3, y3⟩)
    (sd_set (a3 _ (by omega) (by omega) (by omega)) (a3 _ (by omega) (by omega) (by omega)) (fun rho hh => by rw [a1, ex rho]; exact ul rho hh) (fun rho hh => by rw [a2, ey rho]; exact ur rho hh))
  have hsame : x = y → sd_G (tm_sg n A Z) m2 (49 + 4 * (ng - 1)) := fun z => sd_same (by rw [a1, a2, z])
  refine ⟨fun _ => hp _ _ (li_mk hpr hG), fun z z1 => ?_, fun z z1 => hp _ _ (li_mk hpr (li_pop hG z1 (hsame z)))⟩
  subst z1
  refine hp _ _ (li_mk (fun k hk hm => ?_) (li_done hG k1 (hsame z)))
  by_cases e : k = kk
  · exact if_pos e
  · exact (show (fun i => if i = kk then true else pr i) k = pr k from if_neg e).trans (hpr k hk hm)
end LI
