/-! 26: the reference: defineRule, conjecture -/
theorem fl_nd {w : List Nat} {e : Nat} (he : e ≤ w.length) : (∀ i j, 2 ≤ i → i < j → j < e → tm_at w i ≠ tm_at w j) ↔ ((w.take e).drop 2).Nodup := by
  have l0 : (w.take e).length = e := by rw [List.length_take]; omega
  have hat : ∀ i, i < e - 2 → tm_at ((w.take e).drop 2) i = tm_at w (2 + i) := by
    intro i hi
    rw [tm_at_drop, tm_at_take (by omega)]
  have ld : ((w.take e).drop 2).length = e - 2 := by rw [List.length_drop, l0]
  rw [List.nodup_iff_pairwise_ne, List.pairwise_iff_getElem]
  constructor
  · intro h i j hi hj hij
    have := h (2 + i) (2 + j) (by omega) (by omega) (by omega)
    rw [← hat i (by omega), ← hat j (by omega), tm_at_lt hi, tm_at_lt hj] at this
    exact this
  · intro h i j h1 h2 h3
    have hi : i - 2 < ((w.take e).drop 2).length := by omega
    have hj : j - 2 < ((w.take e).drop 2).length := by omega
    have := h (i - 2) (j - 2) hi hj (by omega)
    rw [← tm_at_lt hi, ← tm_at_lt hj, hat _ (by omega), hat _ (by omega), show 2 + (i - 2) = i by omega, show 2 + (j - 2) = j by omega] at this
    exact this
theorem fl_mem {w : List Nat} {e i : Nat} (he : e ≤ w.length) (h1 : 2 ≤ i) (h2 : i < e) : tm_at w i ∈ (w.take e).drop 2 := by
  have : tm_at ((w.take e).drop 2) (i - 2) = tm_at w i := by
    rw [tm_at_drop, tm_at_take (by omega), show 2 + (i - 2) = i by omega]
  rw [← this]
  exact tm_at_mem (by rw [List.length_drop, List.length_take]; omega)
section YG
variable {yn yq yg ya : Int32} {T L K bo bs be fa fr fe hr ft hyA vl ee wb : Nat → Int32} {m : Nat → List Nat} {n ng : Nat} {A : Nat → List Nat} {Z : Nat → Nat} {R : Nat → List Nat} {w : List Nat} {e : Nat}
set_option maxHeartbeats 200000 in
theorem yl_311 {post : Int32 → SY → Prop} {f k : Nat} (hM : cm_M 64 89 T L m) (hH : yr_H R hr) (h87 : m 87 = w) (h48 : w.length ≤ 48) (he : e < w.length) (hf : f < 8) (hk : k < 2)
    (hD : R (4 * f + 2 * k) ≠ [] → post (-3) (yn, yq, yg, ya, T, L, K, bo, bs, be, fa, fr, fe, hr, ft, hyA, vl, ee, wb))
    (hO : R (4 * f + 2 * k) = [] → ∀ T' L' m', cm_M 64 89 T' L' m' → m' (1 + (4 * f + 2 * k)) = w.take e → m' (1 + (4 * f + 2 * k + 1)) = w.drop (e + 1) → (∀ s, s ≠ 1 + (4 * f + 2 * k) → s ≠ 1 + (4 * f + 2 * k + 1) → m' s = m s) → post 0 (yn, yq, yg, ya, T', L', K, bo, bs, be, fa, fr, fe, upd hr (2 * f + k) 1, ft, hyA, vl, ee, wb)) : wY_defineRule_311 post (nI e) (nI f) (nI k) yn yq yg ya T L K bo bs be fa fr fe hr ft hyA vl ee wb := by
  unfold wY_defineRule_311
  rw [show (2 : Int32) * nI f = nI (2 * f) from pk_mul 2 f, nI_add, nI_clamp (n := 2 * f + k) (by omega), hH f k hf hk]
  refine ⟨vp_in_nI (by omega) (by omega), ?_⟩
  by_cases hR : R (4 * f + 2 * k) = []
  · rw [if_pos hR]
    refine br_t rfl (nm_r (e' := nI (1 + (4 * f + 2 * k))) ?_ ?_)
    · rw [show (2 : Int32) * nI (2 * f + k) = nI (2 * (2 * f + k)) from pk_mul 2 _, show (1 : Int32) + nI (2 * (2 * f + k)) = nI (1 + 2 * (2 * f + k)) from nI_add 1 _]
      exact congrArg nI (by omega)
    · rw [nI_clamp (n := 1 + (4 * f + 2 * k)) (by omega)]
      refine ⟨vp_in_nI (by omega) (by omega), nm_e ?_⟩
      have hM1 := cm_nil hM (s := 1 + (4 * f + 2 * k)) (by omega)
      have q87 : ∀ {u : List Nat}, cm_set m (1 + (4 * f + 2 * k)) u 87 = w := by
        intro u
        rw [cm_set_n (by omega), h87]
      refine yp_cr (s := 87) (a := 0) hM1 (by omega) (by omega) (by omega) (by rw [q87]; omega) (Nat.zero_le _) (fun T2 L2 hM2 => ?_)
      rw [q87, cm_set_s, cm_set_set, List.nil_append, List.drop_zero, Nat.sub_zero, cm_tl (K := 64) (by rw [List.length_take]; omega)] at hM2
      rw [show nI (1 + (4 * f + 2 * k)) + 1 = nI (1 + (4 * f + 2 * k + 1)) from by rw [nI_1, Nat.add_assoc], nI_clamp (n := 1 + (4 * f + 2 * k + 1)) (by omega), nI_1 e]
      refine ⟨vp_in_nI (by omega) (by omega), nm_e ?_⟩
      have hM3 := cm_nil hM2 (s := 1 + (4 * f + 2 * k + 1)) (by omega)
      have hl3 := cm_len hM3 (s := 87) (by omega)
      rw [cm_set_n (by omega), q87] at hl3
      dsimp only
      rw [hl3]
      refine yp_cr (s := 87) hM3 (by omega) (by omega) (by omega) (by rw [cm_set_n (by omega), q87]; exact Nat.le_refl _) (by omega) (fun T4 L4 hM4 => ?_)
      rw [cm_set_s, cm_set_set, cm_set_n (s := 1 + (4 * f + 2 * k + 1)) (j := 87) (by omega), q87, List.nil_append, cm_tl (K := w.length - (e + 1)) (by rw [List.length_drop]; exact Nat.le_refl _), cm_tl (K := 64) (by rw [List.length_drop]; omega)] at hM4
      dsimp only
      rw [yi_b1]
      refine ⟨vp_in_nI (by omega) (by omega), nm_e (hO hR T4 L4 _ hM4 ?_ cm_set_s ?_)⟩
      · rw [cm_set_n (by omega), cm_set_s]
      · intro s a b
        rw [cm_set_n b, cm_set_n a]
  · rw [if_neg hR]
    exact br_f (by decide) (hD hR)
set_option maxHeartbeats 200000 in
theorem yl_225 {post : Int32 → SY → Prop} {J : Int32 → Prop} {x1 x4 x5 : Int32} {i : Nat} (hn : n ≤ 8) (hM : cm_M 64 89 T L m) (hH : yr_H R hr) (h87 : m 87 = w) (hi : i < 2 ^ 30) (h0n : tm_fn (tm_at w 0)) (h0d : tm_at w 0 < 70 + n) (hdec : tm_fn (tm_at w i) → tm_at w i < 70 + n) (hx5 : (x5 = nI (eq_rc w) ∧ eq_rc w ≠ 0) ∨ (x5 = -1 ∧ eq_rc w = 0)) (hrc : eq_rc w < 256)
    (hJ : eq_F1 R w i → J (nI i + 1)) (hF : ¬ eq_F1 R w i → post (-2) (nI n, yq, yg, ya, T, L, K, bo, bs, be, fa, fr, fe, hr, ft, hyA, vl, ee, wb)) : wY_defineRule_225 post J x1 (nI (tm_at w 0 - 70)) x4 x5 (nI i) (nI (tm_at w i)) (nI n) yq yg ya T L K bo bs be fa fr fe hr ft hyA vl ee wb := by
  unfold wY_defineRule_225
  have b1 := cm_b hM (s := 87) (by omega) i
  have b2 := cm_b hM (s := 87) (by omega) (i + 1)
  rw [h87] at b1 b2
  refine yp_fun hn (by omega) (fun f hf ef => ?_) (fun hno => ?_)
  · have hfn : tm_fn (tm_at w i) := by omega
    rw [nI_1 i]
    refine yp_c (s := 87) hM (by omega) (by omega) ?_
    rw [h87]
    have h265 : ¬ (tm_at w i < tm_at w 0 ∧ tm_cp R (tm_at w i)) → wY_defineRule_265 post J x1 (nI (tm_at w 0 - 70)) x4 x5 (nI i) (nI f) (nI (tm_at w (i + 1))) (nI n) yq yg ya T L K bo bs be fa fr fe hr ft hyA vl ee wb := by
      intro hno
      unfold wY_defineRule_265
      refine pk_eq f (tm_at w 0 - 70) (fun q => ?_) (fun q => hF (fun z => ?_))
      · rcases hx5 with ⟨rfl, hr0⟩ | ⟨rfl, hr0⟩
        · refine br_f (nI_pos (by omega)) (pk_eq (tm_at w (i + 1)) (eq_rc w) (fun q2 => nm_e (hJ (fun _ => Or.inr ⟨by omega, hr0, q2⟩))) (fun q2 => hF (fun z => ?_)))
          rcases z hfn with z | z
          · exact hno z
          · exact q2 z.2.2
        · refine br_t (by decide) (hF (fun z => ?_))
          rcases z hfn with z | z
          · exact hno z
          · exact z.2.1 hr0
      · rcases z hfn with z | z
        · exact hno z
        · omega
    refine br_f (nI_pos (by omega)) (pk_le (tm_at w 0 - 70) f (fun hge => h265 (fun z => by omega)) (fun hlt => ?_))
    have hJ2 : eq_F1 R w i → J (nI (i + 1)) := by
      rw [← nI_1]
      exact hJ
    refine yp_cpl hH (by omega) (fun hcp => br_f (by decide) (nm_e (hJ2 (fun _ => Or.inl ⟨by omega, by rw [ef]; exact hcp⟩)))) (fun hcp => br_t rfl (h265 (fun z => hcp (by rw [← ef]; exact z.2))))
  · rw [nI_1 i]
    refine yp_c (s := 87) hM (by omega) (by omega) (br_t (by decide) ?_)
    rw [← nI_1]
    exact nm_e (hJ (fun z => absurd ⟨z.1, hdec z⟩ hno))
set_option maxHeartbeats 200000 in
theorem yl_178 {post : Int32 → SY → Prop} {x5 : Int32} {k : Nat} (hn : n ≤ 8) (hM : cm_M 64 89 T L m) (hH : yr_H R hr) (h87 : m 87 = w) (h48 : w.length ≤ 48) (he : e < w.length) (h0n : tm_fn (tm_at w 0)) (h0d : tm_at w 0 < 70 + n) (hdec : ∀ i, e < i → i < w.length → tm_fn (tm_at w i) → tm_at w i < 70 + n) (hx5 : (x5 = nI (eq_rc w) ∧ eq_rc w ≠ 0) ∨ (x5 = -1 ∧ eq_rc w = 0)) (hrc : eq_rc w < 256) (hk : tm_kd (tm_at w 1) = some k)
    (hE : eq_FV w e → eq_FF R w e → wY_defineRule_311 post (nI e) (nI (tm_at w 0 - 70)) (nI k) (nI n) yq yg ya T L K bo bs be fa fr fe hr ft hyA vl ee wb) (hF : ¬ (eq_FV w e ∧ eq_FF R w e) → post (-2) (nI n, yq, yg, ya, T, L, K, bo, bs, be, fa, fr, fe, hr, ft, hyA, vl, ee, wb)) :
    ∀ c i, w.length - i < c → e < i → i ≤ w.length → (∀ j, e < j → j < i → (tm_vn (tm_at w j) ≠ none → ∃ l, l < e ∧ tm_at w l = tm_at w j) ∧ eq_F1 R w j) → wY_defineRule_178 post (nI e) (nI (tm_at w 0 - 70)) (nI (tm_at w 1)) x5 (nI n) yq yg ya T L K bo bs be fa fr fe hr ft hyA vl ee wb c (nI i) := by
  have hl87 := cm_len hM (s := 87) (by omega)
  rw [h87] at hl87
  have bk := cm_b hM (s := 87) (by omega) 1
  rw [h87] at bk
  have hkc := tm_kd_c hk
  intro c
  induction c with
  | zero => intro i a; omega
  | succ c ih =>
    intro i ha hb hc hj
    rw [wY_defineRule_178]
    dsimp only
    rw [hl87]
    refine pk_le w.length i (fun hge => ?_) (fun hlt => ?_)
    · have h311 := hE (fun j j1 j2 j3 => (hj j j1 (by omega)).1 j3) (fun j j1 j2 => (hj j j1 (by omega)).2)
      unfold wY_defineRule_306
      refine pk_eq (tm_at w 1) 90 (fun z => ?_) (fun z1 => pk_eq (tm_at w 1) 78 (fun z => ?_) (fun z2 => ?_))
      · have : k = 0 := by omega
        subst this
        exact h311
      · have : k = 0 := by omega
        subst this
        exact h311
      · have : k = 1 := by omega
        subst this
        exact h311
    · have b1 := cm_b hM (s := 87) (by omega) i
      rw [h87] at b1
      have h225 : (tm_vn (tm_at w i) ≠ none → ∃ l, l < e ∧ tm_at w l = tm_at w i) → wY_defineRule_225 post (wY_defineRule_178 post (nI e) (nI (tm_at w 0 - 70)) (nI (tm_at w 1)) x5 (nI n) yq yg ya T L K bo bs be fa fr fe hr ft hyA vl ee wb c) (nI e) (nI (tm_at w 0 - 70)) (nI (tm_at w 1)) x5 (nI i) (nI (tm_at w i)) (nI n) yq yg ya T L K bo bs be fa fr fe hr ft hyA vl ee wb := by
        intro hv
        refine yl_225 hn hM hH h87 (by omega) h0n h0d (hdec i hb hlt) hx5 hrc (fun hf1 => ?_) (fun hf1 => hF (fun z => hf1 (z.2 i hb hlt)))
        rw [nI_1]
        refine ih (i + 1) (by omega) (by omega) (by omega) (fun j j1 j2 => ?_)
        by_cases q : j = i
        · rw [q]; exact ⟨hv, hf1⟩
        · exact hj j j1 (by omega)
      refine yp_c (s := 87) hM (by omega) (by omega) ?_
      rw [h87]
      refine yp_vnum (by omega) (fun v hv hv16 => br_f (nI_pos (by omega)) ?_) (fun hv => br_t (by decide) (h225 (fun z => absurd hv z)))
      refine yp_cnt (s := 87) (a := 0) hM (by omega) (Nat.zero_le _) (by rw [h87]; omega) (by omega) ?_
      rw [h87, List.drop_zero]
      have hcl : List.count (tm_at w i) (w.take e) ≤ (w.take e).length := List.count_le_length
      rw [List.length_take] at hcl
      refine pk_eq (List.count (tm_at w i) (w.take e)) 0 (fun z => hF (fun y => ?_)) (fun z => h225 (fun _ => ?_))
      · obtain ⟨l, l1, l2⟩ := y.1 i hb hlt (by rw [hv]; exact Option.some_ne_none v)
        have hm : tm_at w i ∈ w.take e := by
          rw [← l2, ← tm_at_take (w := w) l1]
          exact tm_at_mem (by rw [List.length_take]; omega)
        have := List.count_pos_iff.mpr hm
        omega
      · obtain ⟨l, l1, l2⟩ := tm_mem_at (List.count_pos_iff.mp (Nat.pos_of_ne_zero z))
        rw [List.length_take] at l1
        rw [tm_at_take (by omega)] at l2
        exact ⟨l, by omega, l2⟩
set_option maxHeartbeats 200000 in
theorem yl_88 {post : Int32 → SY → Prop} {k : Nat} (hn : n ≤ 8) (hM : cm_M 64 89 T L m) (hH : yr_H R hr) (h87 : m 87 = w) (h48 : w.length ≤ 48) (he : e < w.length) (h0n : tm_fn (tm_at w 0)) (h0d : tm_at w 0 < 70 + n) (hdec : ∀ i, e < i → i < w.length → tm_fn (tm_at w i) → tm_at w i < 70 + n) (hrc : eq_rc w < 256) (hk : tm_kd (tm_at w 1) = some k) (hlen : 2 ≤ e ∧ (tm_at w 1 = 83 → 3 ≤ e) ∧ (tm_at w 1 = 67 → 4 ≤ e))
    (hE : eq_F R w e → wY_defineRule_311 post (nI e) (nI (tm_at w 0 - 70)) (nI k) (nI n) yq yg ya T L K bo bs be fa fr fe hr ft hyA vl ee wb) (hF : ¬ eq_F R w e → post (-2) (nI n, yq, yg, ya, T, L, K, bo, bs, be, fa, fr, fe, hr, ft, hyA, vl, ee, wb)) :
    ∀ c i, e - i < c → 2 ≤ i → i ≤ e → (∀ j, 2 ≤ j → j < i → tm_vn (tm_at w j) ≠ none ∧ List.count (tm_at w j) ((w.take e).drop 2) = 1) → wY_defineRule_88 post (nI e) (nI (tm_at w 0 - 70)) (nI (tm_at w 1)) (nI n) yq yg ya T L K bo bs be fa fr fe hr ft hyA vl ee wb c (nI i) := by
  have bk := cm_b hM (s := 87) (by omega) 1
  have bk2 := cm_b hM (s := 87) (by omega) 2
  have bk3 := cm_b hM (s := 87) (by omega) 3
  rw [h87] at bk bk2 bk3
  intro c
  induction c with
  | zero => intro i a; omega
  | succ c ih =>
    intro i ha hb hc hj
    rw [wY_defineRule_88]
    dsimp only
    refine pk_le e i (fun hge => ?_) (fun hlt => ?_)
    · have ei : i = e := by omega
      subst ei
      have hFL : eq_FL w i := by
        refine ⟨h0n, by rw [hk]; exact Option.some_ne_none k, fun j a b => (hj j a b).1, ?_⟩
        rw [fl_nd (by omega), List.nodup_iff_count]
        intro a
        by_cases hm : a ∈ (w.take i).drop 2
        · obtain ⟨j, j1, j2⟩ := tm_mem_at hm
          rw [List.length_drop, List.length_take] at j1
          rw [tm_at_drop, tm_at_take (by omega)] at j2
          have := (hj (2 + j) (by omega) (by omega)).2
          rw [j2] at this
          omega
        · rw [List.count_eq_zero_of_not_mem hm]
          omega
      have h178 : ∀ x5, ((x5 = nI (eq_rc w) ∧ eq_rc w ≠ 0) ∨ (x5 = -1 ∧ eq_rc w = 0)) → ∀ x6, x6 = nI i + 1 → ∃ c, wY_defineRule_178 post (nI i) (nI (tm_at w 0 - 70)) (nI (tm_at w 1)) x5 (nI n) yq yg ya T L K bo bs be fa fr fe hr ft hyA vl ee wb c x6 := by
        intro x5 hx5 x6 e6
        rw [e6, nI_1]
        exact ⟨w.length + 1, yl_178 hn hM hH h87 h48 he h0n h0d hdec hx5 hrc hk (fun a b => hE ⟨hFL, a, b⟩) (fun z => hF (fun y => z y.2)) _ (i + 1) (by omega) (by omega) (by omega) (fun j a b => by omega)⟩
      have hvn0 : ∀ j, 2 ≤ j → j < i → tm_at w j ≠ 0 := by
        intro j a b z
        apply (hj j a b).1
        rw [z]
        rfl
      refine pk_eq (tm_at w 1) 83 (fun z => ?_) (fun z1 => pk_eq (tm_at w 1) 67 (fun z => ?_) (fun z2 => ?_))
      · have hrc2 : eq_rc w = tm_at w 2 := if_pos z
        refine yp_c (s := 87) (i := 2) hM (by omega) (by omega) ?_
        rw [h87, ← hrc2]
        exact h178 _ (Or.inl ⟨rfl, by rw [hrc2]; exact hvn0 2 (by omega) (by have := hlen.2.1 z; omega)⟩)
      · have hrc2 : eq_rc w = tm_at w 3 := by
          unfold eq_rc
          rw [if_neg (by omega), if_pos z]
        refine yp_c (s := 87) (i := 3) hM (by omega) (by omega) ?_
        rw [h87, ← hrc2]
        exact h178 _ (Or.inl ⟨rfl, by rw [hrc2]; exact hvn0 3 (by omega) (by have := hlen.2.2 z; omega)⟩)
      · have hrc2 : eq_rc w = 0 := by
          unfold eq_rc
          rw [if_neg z1, if_neg z2]
        exact h178 _ (Or.inr ⟨rfl, hrc2⟩)
    · have b1 := cm_b hM (s := 87) (by omega) i
      rw [h87] at b1
      refine yp_c (s := 87) hM (by omega) (by omega) ?_
      rw [h87]
      refine yp_vnum (by omega) (fun v hv hv16 => br_f (nI_pos (by omega)) ?_) (fun hv => br_t (by decide) (hF (fun z => z.1.2.2.1 i hb hlt hv)))
      refine yp_cnt (s := 87) (a := 2) hM (by omega) (by omega) (by rw [h87]; omega) (by omega) ?_
      rw [h87]
      have hcl : List.count (tm_at w i) ((w.take e).drop 2) ≤ ((w.take e).drop 2).length := List.count_le_length
      rw [List.length_drop, List.length_take] at hcl
      refine pk_eq (List.count (tm_at w i) ((w.take e).drop 2)) 1 (fun z => ?_) (fun z => hF (fun y => ?_))
      · refine nm_r (nI_1 i) (ih (i + 1) (by omega) (by omega) (by omega) (fun j a b => ?_))
        by_cases q : j = i
        · rw [q, hv]; exact ⟨Option.some_ne_none v, z⟩
        · exact hj j a (by omega)
      · have hnd := (fl_nd (w := w) (e := e) (by omega)).mp y.1.2.2.2
        have := List.nodup_iff_count.mp hnd (tm_at w i)
        have := List.count_pos_iff.mpr (fl_mem (w := w) (e := e) (by omega) hb hlt)
        omega
set_option maxHeartbeats 400000 in
theorem yp_define {post : Int32 → SY → Prop} (hS : tm_SG n A Z) (hg : sg_Y n A Z fa fr fe) (hM : cm_M 64 89 T L m) (hH : yr_H R hr) (h48 : (m 0).length ≤ 48)
    (hSy : (∀ e, ¬ eq_Q (tm_sg n A Z) (m 0) e) → ∀ T' L' K' m', cm_M 64 89 T' L' m' → m' 0 = [] → (∀ s, 1 ≤ s → s < 81 → m' s = m s) → post (-1) (nI n, yq, yg, ya, T', L', K', bo, bs, be, fa, fr, fe, hr, ft, hyA, vl, ee, wb))
    (hF : ∀ e, eq_Q (tm_sg n A Z) (m 0) e → ¬ eq_F R (m 0) e → ∀ T' L' K' m', cm_M 64 89 T' L' m' → m' 0 = [] → (∀ s, 1 ≤ s → s < 81 → m' s = m s) → post (-2) (nI n, yq, yg, ya, T', L', K', bo, bs, be, fa, fr, fe, hr, ft, hyA, vl, ee, wb))
    (hD : ∀ e k, eq_Q (tm_sg n A Z) (m 0) e → eq_F R (m 0) e → tm_kd (tm_at (m 0) 1) = some k → R (4 * (tm_at (m 0) 0 - 70) + 2 * k) ≠ [] → ∀ T' L' K' m', cm_M 64 89 T' L' m' → m' 0 = [] → (∀ s, 1 ≤ s → s < 81 → m' s = m s) → post (-3) (nI n, yq, yg, ya, T', L', K', bo, bs, be, fa, fr, fe, hr, ft, hyA, vl, ee, wb))
    (hO : ∀ e k, eq_Q (tm_sg n A Z) (m 0) e → eq_F R (m 0) e → tm_kd (tm_at (m 0) 1) = some k → R (4 * (tm_at (m 0) 0 - 70) + 2 * k) = [] → ∀ T' L' K' m', cm_M 64 89 T' L' m' → m' 0 = [] → m' (1 + (4 * (tm_at (m 0) 0 - 70) + 2 * k)) = (m 0).take e → m' (1 + (4 * (tm_at (m 0) 0 - 70) + 2 * k + 1)) = (m 0).drop (e + 1) → (∀ s, 1 ≤ s → s < 81 → s ≠ 1 + (4 * (tm_at (m 0) 0 - 70) + 2 * k) → s ≠ 1 + (4 * (tm_at (m 0) 0 - 70) + 2 * k + 1) → m' s = m s) → post 0 (nI n, yq, yg, ya, T', L', K', bo, bs, be, fa, fr, fe, upd hr (2 * (tm_at (m 0) 0 - 70) + k) 1, ft, hyA, vl, ee, wb)) : wpY_defineRule post (nI n, yq, yg, ya, T, L, K, bo, bs, be, fa, fr, fe, hr, ft, hyA, vl, ee, wb) := by
  unfold wpY_defineRule
  dsimp only
  have hn := hS.1
  refine yp_copy (s := 0) (d := 87) hM (by omega) (by omega) (by omega) (fun T1 L1 hM1 => ?_)
  have hM2 := cm_nil hM1 (s := 0) (by omega)
  generalize hm2 : cm_set (cm_set m 87 (m 0)) 0 [] = m2 at hM2
  have h87 : m2 87 = m 0 := by rw [← hm2, cm_set_n (by omega), cm_set_s]
  have e0 : m2 0 = [] := by rw [← hm2, cm_set_s]
  have hfr : ∀ s, 1 ≤ s → s < 81 → m2 s = m s := fun s a b => by rw [← hm2, cm_set_n (by omega), cm_set_n (by omega)]
  refine nm_e ?_
  dsimp only
  refine yp_eqp (s := 87) hS hg hM2 (by omega) (by rw [h87]; exact h48) ?_ ?_
  · rw [h87]
    intro e hQ K1
    have hQ2 := hQ
    obtain ⟨he, h61, sv, p1, p2⟩ := hQ2
    have b0 := cm_b hM2 (s := 87) (by omega) 0
    have b1 := cm_b hM2 (s := 87) (by omega) 1
    have hrc := eq_rc_lt hM2 (s := 87) (by omega)
    rw [h87] at b0 b1 hrc
    have hF2 : ¬ eq_F R (m 0) e → post (-2) (nI n, yq, yg, ya, T1, upd L1 0 0, K1, bo, bs, be, fa, fr, fe, hr, ft, hyA, vl, ee, wb) := fun hno => hF e hQ hno T1 _ K1 m2 hM2 e0 hfr
    have epos : 0 < e := by
      have := tm_P_ne p1
      rw [List.length_take] at this
      omega
    have h0d : tm_fn (tm_at (m 0) 0) → tm_at (m 0) 0 < 70 + n := by
      intro hf0
      refine yi_fn hS p1 ?_ hf0
      rw [← tm_at_take (w := m 0) epos]
      exact tm_at_mem (by rw [List.length_take]; omega)
    have hdec : ∀ i, e < i → i < (m 0).length → tm_fn (tm_at (m 0) i) → tm_at (m 0) i < 70 + n := by
      intro i h1 h2 hfi
      refine yi_fn hS p2 ?_ hfi
      have : tm_at ((m 0).drop (e + 1)) (i - (e + 1)) = tm_at (m 0) i := by
        rw [tm_at_drop]
        exact congrArg _ (by omega)
      rw [← this]
      exact tm_at_mem (by rw [List.length_drop]; omega)
    refine br_t (nI_pos' (by omega)) ?_
    dsimp only
    refine yp_c (s := 87) (i := 0) hM2 (by omega) (by omega) ?_
    rw [h87]
    refine yp_fun hn (by omega) (fun f hf ef => ?_) (fun hno => ?_)
    · have hf0 : tm_fn (tm_at (m 0) 0) := by omega
      have hff : f = tm_at (m 0) 0 - 70 := by omega
      subst hff
      refine yp_c (s := 87) (i := 1) hM2 (by omega) (by omega) ?_
      rw [h87]
      refine br_f (nI_pos (by omega)) ?_
      have h88 : ∀ k, tm_kd (tm_at (m 0) 1) = some k → ∃ c, wY_defineRule_88 post (nI e) (nI (tm_at (m 0) 0 - 70)) (nI (tm_at (m 0) 1)) (nI n) yq yg ya T1 (upd L1 0 0) K1 bo bs be fa fr fe hr ft hyA vl ee wb c 2 := by
        intro k hk
        have hk2 : k < 2 := by
          have := tm_kd_c hk
          omega
        have hlen := eq_len hQ (by rw [hk]; exact Option.some_ne_none k) hf0
        refine ⟨e + 1, yl_88 hn hM2 hH h87 h48 he hf0 (h0d hf0) hdec hrc hk hlen (fun hFF => ?_) hF2 _ 2 (by omega) (by omega) hlen.1 (fun j a b => by omega)⟩
        refine yl_311 hM2 hH h87 h48 he (by omega) hk2 (fun hne => hD e k hQ hFF hk hne T1 _ K1 m2 hM2 e0 hfr) (fun hnil T3 L3 m3 hM3 q1 q2 q3 => ?_)
        exact hO e k hQ hFF hk hnil T3 L3 K1 m3 hM3 (by rw [q3 0 (by omega) (by omega), e0]) q1 q2 (fun s a b c d => by rw [q3 s c d, hfr s a b])
      refine pk_eq (tm_at (m 0) 1) 90 (fun z => h88 0 (by rw [z]; rfl)) (fun z1 => pk_eq (tm_at (m 0) 1) 78 (fun z => h88 0 (by rw [z]; rfl)) (fun z2 => pk_eq (tm_at (m 0) 1) 83 (fun z => h88 1 (by rw [z]; rfl)) (fun z3 => pk_eq (tm_at (m 0) 1) 67 (fun z => h88 1 (by rw [z]; rfl)) (fun z4 => hF2 (fun y => y.1.2.1 ?_)))))
      unfold tm_kd
      rw [if_neg (by omega), if_neg (by omega)]
    · refine yp_c (s := 87) (i := 1) hM2 (by omega) (by omega) (br_t (by decide) (hF2 (fun z => hno ⟨z.1.1.1, h0d z.1.1⟩)))
  · rw [h87]
    intro hno K1
    exact br_f (by decide) (hSy hno T1 _ K1 m2 hM2 e0 hfr)
end YG
