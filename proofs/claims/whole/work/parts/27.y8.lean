/-! 27: the reference: conjecture, generalize -/
section YH
variable {yn yq yg ya : Int32} {T L K bo bs be fa fr fe hr ft hyA vl ee wb : Nat → Int32} {m : Nat → List Nat} {n ng q : Nat} {A : Nat → List Nat} {Z : Nat → Nat} {R : Nat → List Nat} {w : List Nat} {e : Nat}
set_option maxHeartbeats 200000 in
theorem yl_107 {post : Int32 → SY → Prop} (hM : cm_M 64 89 T L m) (h87 : m 87 = w) (h48 : w.length ≤ 48) (he : e < w.length) (hq : q < 8)
    (hO : ∀ T' L' m', cm_M 64 89 T' L' m' → m' (33 + 2 * q) = w.take e → m' (33 + 2 * q + 1) = w.drop (e + 1) → m' 49 = w.take e → m' 50 = w.drop (e + 1) → (∀ s, s ≠ 33 + 2 * q → s ≠ 33 + 2 * q + 1 → s ≠ 49 → s ≠ 50 → m' s = m s) → post (nI q) (yn, nI (q + 1), 1, nI q, T', L', K, bo, bs, be, fa, fr, fe, hr, upd ft q 2, upd hyA 0 0, vl, ee, wb)) : wY_conjecture_107 post (nI e) yn (nI q) yg ya T L K bo bs be fa fr fe hr ft hyA vl ee wb := by
  unfold wY_conjecture_107
  rw [nI_1 q, show (2 : Int32) * nI q = nI (2 * q) from pk_mul 2 q, show (33 : Int32) + nI (2 * q) = nI (33 + 2 * q) from nI_add 33 _, nI_clamp (n := q) (by omega), yi_b0]
  refine nm_e (nm_e ?_)
  rw [nI_clamp (n := 33 + 2 * q) (by omega), nI_1 (33 + 2 * q), nI_clamp (n := 33 + 2 * q + 1) (by omega), nI_1 e]
  refine ⟨vp_in_nI (by omega) (by omega), nm_e ?_⟩
  have hM1 := cm_nil hM (s := 33 + 2 * q) (by omega)
  have q87 : ∀ {u : List Nat}, cm_set m (33 + 2 * q) u 87 = w := by
    intro u
    rw [cm_set_n (by omega), h87]
  refine yp_cr (s := 87) (a := 0) hM1 (by omega) (by omega) (by omega) (by rw [q87]; omega) (Nat.zero_le _) (fun T2 L2 hM2 => ?_)
  rw [q87, cm_set_s, cm_set_set, List.nil_append, List.drop_zero, Nat.sub_zero, cm_tl (K := 64) (by rw [List.length_take]; omega)] at hM2
  dsimp only
  refine ⟨vp_in_nI (by omega) (by omega), nm_e ?_⟩
  have hM3 := cm_nil hM2 (s := 33 + 2 * q + 1) (by omega)
  have hl3 := cm_len hM3 (s := 87) (by omega)
  rw [cm_set_n (by omega), q87] at hl3
  rw [hl3]
  refine yp_cr (s := 87) hM3 (by omega) (by omega) (by omega) (by rw [cm_set_n (by omega), q87]; exact Nat.le_refl _) (by omega) (fun T4 L4 hM4 => ?_)
  rw [cm_set_s, cm_set_set, cm_set_n (s := 33 + 2 * q + 1) (j := 87) (by omega), q87, List.nil_append, cm_tl (K := w.length - (e + 1)) (by rw [List.length_drop]; exact Nat.le_refl _), cm_tl (K := 64) (by rw [List.length_drop]; omega)] at hM4
  dsimp only
  refine ⟨vp_in_nI (by omega) (by omega), nm_e (nm_e ?_)⟩
  refine yp_copy (d := 49) hM4 (by omega) (by omega) (by omega) (fun T5 L5 hM5 => ?_)
  rw [cm_set_n (s := 33 + 2 * q + 1) (j := 33 + 2 * q) (by omega), cm_set_s] at hM5
  dsimp only
  refine yp_copy (d := 50) hM5 (by omega) (by omega) (by omega) (fun T6 L6 hM6 => ?_)
  rw [cm_set_n (s := 49) (j := 33 + 2 * q + 1) (by omega), cm_set_s] at hM6
  dsimp only
  refine hO T6 L6 _ hM6 ?_ ?_ ?_ cm_set_s ?_
  · simp (disch := omega) only [cm_set_s, cm_set_n]
  · simp (disch := omega) only [cm_set_s, cm_set_n]
  · simp (disch := omega) only [cm_set_s, cm_set_n]
  · intro s a b c d
    rw [cm_set_n d, cm_set_n c, cm_set_n b, cm_set_n a]
/-- the statuses after the old active formula went open -/
def yo_ft (ya : Int32) (ft : Nat → Int32) : Nat → Int32 := if ya < 0 then ft else upd ft ya.toNatClampNeg 1
set_option maxHeartbeats 200000 in
theorem yl_29 {post : Int32 → SY → Prop} (hn : n ≤ 8) (hq : q ≤ 8) (hM : cm_M 64 89 T L m) (hH : yr_H R hr) (h87 : m 87 = w) (h48 : w.length ≤ 48) (he : e < w.length) (hact : ya < 0 ∨ ∃ k, k < 8 ∧ ya = nI k) (hdec : ∀ i, i < w.length → tm_fn (tm_at w i) → tm_at w i < 70 + n)
    (hF : ¬ tm_FC R w → post (-2) (nI n, nI q, yg, ya, T, L, K, bo, bs, be, fa, fr, fe, hr, ft, hyA, vl, ee, wb)) (hU : tm_FC R w → q = 8 → post (-4) (nI n, nI q, yg, ya, T, L, K, bo, bs, be, fa, fr, fe, hr, ft, hyA, vl, ee, wb)) (hO : tm_FC R w → q < 8 → wY_conjecture_107 post (nI e) (nI n) (nI q) yg ya T L K bo bs be fa fr fe hr (yo_ft ya ft) hyA vl ee wb) :
    ∀ c i, w.length - i < c → i ≤ w.length → (∀ j, j < i → tm_fn (tm_at w j) → tm_cp R (tm_at w j)) → wY_conjecture_29 post (nI e) (nI n) (nI q) yg ya T L K bo bs be fa fr fe hr ft hyA vl ee wb c (nI i) := by
  have hl87 := cm_len hM (s := 87) (by omega)
  rw [h87] at hl87
  intro c
  induction c with
  | zero => intro i a; omega
  | succ c ih =>
    intro i ha hb hj
    rw [wY_conjecture_29]
    dsimp only
    rw [hl87]
    refine pk_le w.length i (fun hge => ?_) (fun hlt => ?_)
    · have hFC : tm_FC R w := by
        intro c hc hf
        obtain ⟨j, hj2, rfl⟩ := tm_mem_at hc
        exact hj j (by omega) hf
      refine pk_lt q 8 (fun z => ?_) (fun z => hU hFC (by omega))
      have h9 := hO hFC z
      unfold yo_ft at h9
      rcases hact with hx | ⟨k, hk, hx⟩
      · rw [if_pos hx] at h9
        exact br_t hx h9
      · have hx2 : ¬ ya < 0 := by rw [hx]; exact nI_pos (by omega)
        rw [if_neg hx2] at h9
        exact br_f hx2 ⟨by rw [hx]; exact vp_in_nI hk (by omega), nm_e h9⟩
    · have bi := cm_b hM (s := 87) (by omega) i
      rw [h87] at bi
      have hnext : (tm_fn (tm_at w i) → tm_cp R (tm_at w i)) → wY_conjecture_29 post (nI e) (nI n) (nI q) yg ya T L K bo bs be fa fr fe hr ft hyA vl ee wb c (nI i + 1) := by
        intro hf
        rw [nI_1]
        refine ih (i + 1) (by omega) (by omega) (fun j h2 => ?_)
        by_cases z : j = i
        · rw [z]; exact hf
        · exact hj j (by omega)
      refine yp_c (s := 87) hM (by omega) (by omega) ?_
      rw [h87]
      refine yp_fun hn (by omega) (fun f hf ef => br_f (nI_pos (by omega)) ?_) (fun hno => br_t (by decide) (nm_e (hnext (fun z => absurd ⟨z.1, hdec i hlt z⟩ hno))))
      refine yp_cpl hH (by omega) (fun hcp => br_f (by decide) (nm_e (hnext (fun _ => by rw [ef]; exact hcp)))) (fun hcp => br_t rfl (hF (fun hFC => hcp ?_)))
      have := hFC _ (tm_at_mem hlt) (show tm_fn (tm_at w i) by omega)
      rw [ef] at this
      exact this
set_option maxHeartbeats 400000 in
theorem yp_conj {post : Int32 → SY → Prop} (hS : tm_SG n A Z) (hg : sg_Y n A Z fa fr fe) (hM : cm_M 64 89 T L m) (hH : yr_H R hr) (h48 : (m 0).length ≤ 48) (hq : q ≤ 8) (hact : ya < 0 ∨ ∃ k, k < 8 ∧ ya = nI k)
    (hSy : (∀ e, ¬ eq_Q (tm_sg n A Z) (m 0) e) → ∀ T' L' K' m', cm_M 64 89 T' L' m' → m' 0 = [] → (∀ s, 1 ≤ s → s < 81 → m' s = m s) → post (-1) (nI n, nI q, yg, ya, T', L', K', bo, bs, be, fa, fr, fe, hr, ft, hyA, vl, ee, wb))
    (hF : ∀ e, eq_Q (tm_sg n A Z) (m 0) e → ¬ tm_FC R (m 0) → ∀ T' L' K' m', cm_M 64 89 T' L' m' → m' 0 = [] → (∀ s, 1 ≤ s → s < 81 → m' s = m s) → post (-2) (nI n, nI q, yg, ya, T', L', K', bo, bs, be, fa, fr, fe, hr, ft, hyA, vl, ee, wb))
    (hU : ∀ e, eq_Q (tm_sg n A Z) (m 0) e → tm_FC R (m 0) → q = 8 → ∀ T' L' K' m', cm_M 64 89 T' L' m' → m' 0 = [] → (∀ s, 1 ≤ s → s < 81 → m' s = m s) → post (-4) (nI n, nI q, yg, ya, T', L', K', bo, bs, be, fa, fr, fe, hr, ft, hyA, vl, ee, wb))
    (hO : ∀ e, eq_Q (tm_sg n A Z) (m 0) e → tm_FC R (m 0) → q < 8 → ∀ T' L' K' m', cm_M 64 89 T' L' m' → m' 0 = [] → m' (33 + 2 * q) = (m 0).take e → m' (33 + 2 * q + 1) = (m 0).drop (e + 1) → m' 49 = (m 0).take e → m' 50 = (m 0).drop (e + 1) → (∀ s, 1 ≤ s → s < 81 → s ≠ 33 + 2 * q → s ≠ 33 + 2 * q + 1 → s ≠ 49 → s ≠ 50 → m' s = m s) → post (nI q) (nI n, nI (q + 1), 1, nI q, T', L', K', bo, bs, be, fa, fr, fe, hr, upd (yo_ft ya ft) q 2, upd hyA 0 0, vl, ee, wb)) : wpY_conjecture post (nI n, nI q, yg, ya, T, L, K, bo, bs, be, fa, fr, fe, hr, ft, hyA, vl, ee, wb) := by
  unfold wpY_conjecture
  dsimp only
  have hn := hS.1
  refine yp_copy (s := 0) (d := 87) hM (by omega) (by omega) (by omega) (fun T1 L1 hM1 => ?_)
  have hM2 := cm_nil hM1 (s := 0) (by omega)
  generalize hm2 : cm_set (cm_set m 87 (m 0)) 0 [] = m2 at hM2
  have h87 : m2 87 = m 0 := by rw [← hm2, cm_set_n (by omega), cm_set_s]
  have e0 : m2 0 = [] := by rw [← hm2, cm_set_s]
  have hfr : ∀ s, 1 ≤ s → s < 81 → m2 s = m s := fun s a b => by rw [← hm2, cm_set_n (by omega), cm_set_n (by omega)]
  refine nm_e ?_
  dsimp only
  refine yp_eqp (s := 87) hS hg hM2 (by omega) (by rw [h87]; exact h48) ?_ ?_
  · rw [h87]
    intro e hQ K1
    have hQ2 := hQ
    obtain ⟨he, h61, sv, p1, p2⟩ := hQ2
    have hdec : ∀ i, i < (m 0).length → tm_fn (tm_at (m 0) i) → tm_at (m 0) i < 70 + n := by
      intro i h2 hfi
      by_cases hie : i < e
      · refine yi_fn hS p1 ?_ hfi
        rw [← tm_at_take (w := m 0) hie]
        exact tm_at_mem (by rw [List.length_take]; omega)
      · by_cases hie2 : i = e
        · rw [hie2, h61] at hfi
          omega
        · refine yi_fn hS p2 ?_ hfi
          have : tm_at ((m 0).drop (e + 1)) (i - (e + 1)) = tm_at (m 0) i := by
            rw [tm_at_drop]
            exact congrArg _ (by omega)
          rw [← this]
          exact tm_at_mem (by rw [List.length_drop]; omega)
    refine br_t (nI_pos' (by omega)) ⟨(m 0).length + 1, ?_⟩
    dsimp only
    refine yl_29 hn hq hM2 hH h87 h48 he hact hdec (fun hno => hF e hQ hno T1 _ K1 m2 hM2 e0 hfr) (fun hFC h8 => hU e hQ hFC h8 T1 _ K1 m2 hM2 e0 hfr) (fun hFC h8 => ?_) _ 0 (by omega) (Nat.zero_le _) (fun j hj => absurd hj (Nat.not_lt_zero _))
    refine yl_107 hM2 h87 h48 he h8 (fun T3 L3 m3 hM3 q1 q2 q3 q4 q5 => ?_)
    exact hO e hQ hFC h8 T3 L3 K1 m3 hM3 (by rw [q5 0 (by omega) (by omega) (by omega) (by omega), e0]) q1 q2 q3 q4 (fun s a b c d f g => by rw [q5 s c d f g, hfr s a b])
  · rw [h87]
    intro hno K1
    exact br_f (by decide) (hSy hno T1 _ K1 m2 hM2 e0 hfr)
end YH
