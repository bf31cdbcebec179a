/-! 27: the law's signature; its eight rules are true -/
def lz_A : Nat → List Nat := fun f => if f = 0 then [0, 0] else if f = 1 then [1, 1] else [1]
def lz_Z : Nat → Nat := fun f => if f = 0 then 0 else if f = 1 then 1 else if f = 2 then 0 else 1
theorem lz_a {rho : Nat → Nat} {st : List Nat} : se_op (tm_sg 4 lz_A lz_Z) rho 97 st = rho 0 :: st := rfl
theorem lz_b {rho : Nat → Nat} {st : List Nat} : se_op (tm_sg 4 lz_A lz_Z) rho 98 st = rho 1 :: st := rfl
theorem lz_p {rho : Nat → Nat} {st : List Nat} : se_op (tm_sg 4 lz_A lz_Z) rho 112 st = rho 8 :: st := rfl
theorem lz_q {rho : Nat → Nat} {st : List Nat} : se_op (tm_sg 4 lz_A lz_Z) rho 113 st = rho 9 :: st := rfl
theorem lz_oF {rho : Nat → Nat} {x y : Nat} {st : List Nat} : se_op (tm_sg 4 lz_A lz_Z) rho 70 (x :: y :: st) = (x + y) :: st := rfl
theorem lz_oG {rho : Nat → Nat} {x y : Nat} {st : List Nat} : se_op (tm_sg 4 lz_A lz_Z) rho 71 (x :: y :: st) = se_en (se_de x ++ se_de y) :: st := rfl
theorem lz_oH {rho : Nat → Nat} {x : Nat} {st : List Nat} : se_op (tm_sg 4 lz_A lz_Z) rho 72 (x :: st) = (se_de x).length :: st := rfl
theorem lz_oI {rho : Nat → Nat} {x : Nat} {st : List Nat} : se_op (tm_sg 4 lz_A lz_Z) rho 73 (x :: st) = se_en (se_de x).reverse :: st := rfl
theorem lz_r1 (rho : Nat → Nat) : se_v (tm_sg 4 lz_A lz_Z) rho [98] = se_v (tm_sg 4 lz_A lz_Z) rho [70, 90, 98] := by
  rw [se_v_cons, se_v_cons, se_v_cons, se_v_cons, se_v_nil, lz_b, se_o90, lz_oF, Nat.zero_add]
theorem lz_r2 (rho : Nat → Nat) : se_v (tm_sg 4 lz_A lz_Z) rho [83, 70, 97, 98] = se_v (tm_sg 4 lz_A lz_Z) rho [70, 83, 97, 98] := by
  simp only [se_v_cons, se_v_nil, lz_b, lz_a, lz_oF, se_o83]
  rw [show rho 0 + rho 1 + 1 = rho 0 + 1 + rho 1 by omega]
theorem lz_r3 (rho : Nat → Nat) : se_v (tm_sg 4 lz_A lz_Z) rho [113] = se_v (tm_sg 4 lz_A lz_Z) rho [71, 78, 113] := by
  simp only [se_v_cons, se_v_nil, lz_q, se_o78, lz_oG, se_de_0, List.nil_append, se_en_de]
theorem lz_r4 (rho : Nat → Nat) : se_v (tm_sg 4 lz_A lz_Z) rho [67, 97, 71, 112, 113] = se_v (tm_sg 4 lz_A lz_Z) rho [71, 67, 97, 112, 113] := by
  simp only [se_v_cons, se_v_nil, lz_q, lz_p, lz_a, se_o67, lz_oG, se_de_co, List.cons_append]
  rfl
theorem lz_r5 (rho : Nat → Nat) : se_v (tm_sg 4 lz_A lz_Z) rho [90] = se_v (tm_sg 4 lz_A lz_Z) rho [72, 78] := by
  simp only [se_v_cons, se_v_nil, se_o90, se_o78, lz_oH, se_de_0, List.length_nil]
theorem lz_r6 (rho : Nat → Nat) : se_v (tm_sg 4 lz_A lz_Z) rho [83, 72, 112] = se_v (tm_sg 4 lz_A lz_Z) rho [72, 67, 97, 112] := by
  simp only [se_v_cons, se_v_nil, lz_p, lz_a, se_o67, lz_oH, se_o83, se_de_co, List.length_cons]
theorem lz_r7 (rho : Nat → Nat) : se_v (tm_sg 4 lz_A lz_Z) rho [78] = se_v (tm_sg 4 lz_A lz_Z) rho [73, 78] := by
  simp only [se_v_cons, se_v_nil, se_o78, lz_oI, se_de_0, List.reverse_nil]
  rfl
theorem lz_r8 (rho : Nat → Nat) : se_v (tm_sg 4 lz_A lz_Z) rho [71, 73, 112, 67, 97, 78] = se_v (tm_sg 4 lz_A lz_Z) rho [73, 67, 97, 112] := by
  simp only [se_v_cons, se_v_nil, lz_p, lz_a, se_o67, se_o78, lz_oI, lz_oG, se_de_en, se_de_co, se_de_0, List.reverse_cons]
/-- a rule's text: wherever it is cut at its '=', the two sides mean the same -/
def lz_ok (t : List Nat) : Prop := ∀ e, e < t.length → tm_at t e = 61 → ∀ rho, se_v (tm_sg 4 lz_A lz_Z) rho (t.drop (e + 1)) = se_v (tm_sg 4 lz_A lz_Z) rho (t.take e)
theorem lz_mk {t : List Nat} (e0 : Nat) (h : ∀ e, e < t.length → tm_at t e = 61 → e = e0) (hv : ∀ rho, se_v (tm_sg 4 lz_A lz_Z) rho (t.drop (e0 + 1)) = se_v (tm_sg 4 lz_A lz_Z) rho (t.take e0)) : lz_ok t := by
  intro e he h1
  rw [h e he h1]
  exact hv
theorem lz_t1 : lz_ok [70, 90, 98, 61, 98] := lz_mk 3 (by decide) lz_r1
theorem lz_t2 : lz_ok [70, 83, 97, 98, 61, 83, 70, 97, 98] := lz_mk 4 (by decide) lz_r2
theorem lz_t3 : lz_ok [71, 78, 113, 61, 113] := lz_mk 3 (by decide) lz_r3
theorem lz_t4 : lz_ok [71, 67, 97, 112, 113, 61, 67, 97, 71, 112, 113] := lz_mk 5 (by decide) lz_r4
theorem lz_t5 : lz_ok [72, 78, 61, 90] := lz_mk 2 (by decide) lz_r5
theorem lz_t6 : lz_ok [72, 67, 97, 112, 61, 83, 72, 112] := lz_mk 4 (by decide) lz_r6
theorem lz_t7 : lz_ok [73, 78, 61, 78] := lz_mk 2 (by decide) lz_r7
theorem lz_t8 : lz_ok [73, 67, 97, 112, 61, 71, 73, 112, 67, 97, 78] := lz_mk 4 (by decide) lz_r8
theorem ri_fn {n : Nat} {A : Nat → List Nat} {Z : Nat → Nat} (hS : tm_SG n A Z) {w S : List Nat} {c : Nat} (hP : tm_P (tm_sg n A Z) S w) (hc : c ∈ w) (hf : tm_fn c) : c < 70 + n := by
  obtain ⟨a, s, hg⟩ := tm_P_sym hP hc
  rcases tm_sg_c n A Z c hS.1 with ⟨e, _⟩ | ⟨e, _⟩ | ⟨e, _⟩ | ⟨e, _⟩ | ⟨e, _⟩ | ⟨e, _⟩ | ⟨f, hf, e, _⟩ | ⟨q, _⟩
  · omega
  · omega
  · omega
  · omega
  · omega
  · omega
  · omega
  · rw [hg] at q
    cases q
section MD
variable {M : Nat → Prop} {u : St1} {post : Int32 → St1 → Prop}
theorem mw_feedC {n : Nat} {A : Nat → List Nat} {Z : Nat → Nat} {t : List Nat} (h : li_S n A Z M (fun m => m 0 = []) u) (v1 v2 v3 v4 : Int32) (ht : fd_l (fd_b v1 v2 v3 v4) 16 0 = t) (hp : ∀ r u, li_S n A Z M (fun m => m 0 = t) u → post r u) : wpX_feed post u v1 v2 v3 v4 := by
  obtain ⟨q, ng, hy, pr, val, e2, act, m, T, L, ay, gs, so, E, B, pv, vl, el, rfl, hpr, hC, hI⟩ := h
  have hI0 := hI
  obtain ⟨hM, hW, hA, hg, hP, hv, hR, hV, hF⟩ := hI
  have hC' : m 0 = [] := hC
  have hlen := fd_l_len (b := fd_b v1 v2 v3 v4) 16 0
  refine xp_feed hM hW.2.2.2.1 (fun hle T1 L1 hM1 => hp _ _ (li_mkC hpr ?_ (li_keep hI0 hM1 (fun s a b => mm_set_n (by omega)) ?_))) (fun hgt T1 hM1 => ?_)
  · show mm_set m 0 (m 0 ++ fd_l (fd_b v1 v2 v3 v4) 16 0) 0 = t
    rw [mm_set_s, hC', ht]
    rfl
  · rw [mm_set_s, List.length_append]
    exact hle
  · exfalso
    rw [hC', List.length_nil] at hgt
    omega
theorem mw_define {t : List Nat} (h : li_S 4 lz_A lz_Z M (fun m => m 0 = t) u) (ht : lz_ok t) (hp : ∀ r u, li_S 4 lz_A lz_Z M (fun m => m 0 = []) u → post r u) : wpX_defineRule post u := by
  obtain ⟨q, ng, hy, pr, val, e2, act, m, T, L, ay, gs, so, E, B, pv, vl, el, rfl, hpr, hC, hI⟩ := h
  have hI0 := hI
  obtain ⟨hM, hW, hA, hg, hP, hv, hR, hV, hF⟩ := hI
  have hC' : m 0 = t := hC
  have h48 := hW.2.2.2.1
  have hS := hW.1
  have hg8 := hW.2.2.1
  have hXn := mm_nil hM (s := 0) (by omega)
  have hkeep : li_S 4 lz_A lz_Z M (fun m => m 0 = []) (nI 4, nI q, act, nI ng, T, upd L 0 0, ay, gs, so, E, B, pv, vl, el) := by
    refine li_mkC hpr ?_ (li_keep hI0 hXn (fun s a b => mm_set_n (by omega)) ?_)
    · exact mm_set_s
    · rw [mm_set_s]
      exact Nat.zero_le _
  refine xp_define hW hg hM (fun hno => hp _ _ hkeep) (fun e hQ hFn => hp _ _ hkeep) (fun e kd hQ hFn hkd hne => hp _ _ hkeep) (fun e kd T1 L1 m1 hQ hFo hkd hnil hM1 x0 x1 x2 x3 => ?_)
  have hfn : tm_fn (tm_at (m 0) 0) := hFo.1.1
  have hk2 : kd < 2 := by
    have := tm_kd_c hkd
    omega
  obtain ⟨qe, q61, sv, p1, p2⟩ := hQ
  have epos : 0 < e := by
    have := tm_P_ne p1
    rw [List.length_take] at this
    omega
  have hdec : tm_at (m 0) 0 < 70 + 4 := by
    refine ri_fn hS p1 ?_ hfn
    rw [← tm_at_take (w := m 0) epos]
    exact tm_at_mem (by rw [List.length_take]; omega)
  generalize hf9 : tm_at (m 0) 0 - 70 = f9 at *
  have hf8 : f9 < 8 := by omega
  have hfn9 : f9 < 4 := by omega
  have hneR : ∀ i, i < 32 → iv_R m i ≠ [] → iv_R m1 i ≠ [] := by
    intro i hi hn
    by_cases q1 : i = 4 * f9 + 2 * kd
    · rw [q1] at hn
      exact absurd hnil hn
    · by_cases q2 : i = 4 * f9 + 2 * kd + 1
      · rw [q2] at hn
        exact absurd ((hW.2.2.2.2.2.1.2.1 f9 kd hf8 hk2).2 hnil) hn
      · show m1 (17 + i) ≠ []
        rw [x3 _ (by omega) (by omega) (by omega)]
        exact hn
  have hRW := eq_RW (R := iv_R m) (R' := iv_R m1) (k := kd) ⟨qe, q61, sv, p1, p2⟩ hFo hkd (by rw [hf9]; exact x1) (by rw [hf9]; exact x2) hneR
  rw [hf9] at hRW
  have hW2 : iv_W 4 lz_A lz_Z q ng hy m1 := by
    refine iv_W_rule (f := f9) (k := kd) hf8 hk2 hfn9 hnil (fun s a b c d => x3 s (by omega) c d) ?_ ?_ ?_ hW hRW
    · rw [x0]
      exact Nat.zero_le _
    · rw [x1, List.length_take]
      omega
    · rw [x2, List.length_drop]
      omega
  have y1 : iv_R m1 (4 * f9 + 2 * kd) = (m 0).take e := x1
  have y2 : iv_R m1 (4 * f9 + 2 * kd + 1) = (m 0).drop (e + 1) := x2
  refine hp _ _ (li_mkC hpr x0 ⟨hM1, hW2, hA, hg, hP, hv, ?_, li_Vx (fun s a b => x3 s (by omega) (by omega) (by omega)) hV, li_Fx (fun s a b => x3 s (by omega) (by omega) (by omega)) (fun hj j h => ?_) hF⟩)
  · intro f k3 hf hk3 hne
    by_cases q1 : f = f9 ∧ k3 = kd
    · obtain ⟨rfl, rfl⟩ := q1
      rw [y1, y2]
      refine ⟨?_, fun c hc hvn => ?_⟩
      · rw [hC'] at qe q61 ⊢
        exact ht e qe q61
      · obtain ⟨i, hi, rfl⟩ := tm_mem_at hc
        rw [List.length_drop] at hi
        rw [tm_at_drop] at hvn ⊢
        obtain ⟨j, hj, ej⟩ := hFo.2.1 (e + 1 + i) (by omega) (by omega) hvn
        rw [← ej, ← tm_at_take (w := m 0) hj]
        exact tm_at_mem (by rw [List.length_take]; omega)
    · have r1 : iv_R m1 (4 * f + 2 * k3) = iv_R m (4 * f + 2 * k3) := x3 _ (by omega) (by omega) (by omega)
      have r2 : iv_R m1 (4 * f + 2 * k3 + 1) = iv_R m (4 * f + 2 * k3 + 1) := x3 _ (by omega) (by omega) (by omega)
      rw [r1] at hne
      rw [r1, r2]
      exact hR f k3 hf hk3 hne
  · exact li_Gx (x3 _ (by omega) (by omega) (by omega)) (x3 _ (by omega) (by omega) (by omega)) (x3 _ (by omega) (by omega) (by omega)) (x3 _ (by omega) (by omega) (by omega)) (hj j h)
end MD
