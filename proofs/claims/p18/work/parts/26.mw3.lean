/-! 26: feed, conjecture, status, evaluate, setVar keep it -/
def nb_i (b : Int32) (i : Nat) : Nat := (b >>> (nI (4 * i) &&& 31)).toBitVec.toNat % 16
theorem nb_e (b : Int32) (i : Nat) : (b >>> ((4 * nI i) &&& 31)) &&& 15 = nI (nb_i b i) := by
  rw [show (4 : Int32) * nI i = nI (4 * i) from pk_mul 4 i]
  exact pk_and _ 4 (by decide)
theorem nb_lt (b : Int32) (i : Nat) : nb_i b i < 16 := Nat.mod_lt _ (by decide)
section SV
variable {xn xq xa xg : Int32} {T L ay gs so E B pv vl el : Nat → Int32} {b : Int32} {v a : Nat}
theorem sx_49 {post : Int32 → St1 → Prop} (hv : v < 16) (ha : a ≤ 4) (h1 : (∀ j, j < a → nb_i b j ≤ 3) → post 1 (xn, xq, xa, xg, T, L, ay, gs, so, E, B, pv, upd vl v (nI a), upd el v b)) (h0 : ∀ j, j < a → 3 < nb_i b j → post 0 (xn, xq, xa, xg, T, L, ay, gs, so, E, B, pv, vl, el)) : ∀ f i, a < f + i → i ≤ a → (∀ j, j < i → nb_i b j ≤ 3) → wX_setVar_49 post (nI v) (nI a) b xn xq xa xg T L ay gs so E B pv vl el f (nI i) := by
  intro f
  induction f with
  | zero => intro i x y; omega
  | succ f ih =>
    intro i x y hj
    rw [wX_setVar_49]
    dsimp only
    rw [nI_clamp (n := v) (by omega), nb_e]
    have hl := nb_lt b i
    have hin : vp_in (nI v) 16 := vp_in_nI hv (by omega)
    refine pk_le a i (fun hge => ⟨hin, nm_e ⟨hin, nm_e (h1 (fun j z => hj j (by omega)))⟩⟩) (fun hlt => pk_le (nb_i b i) 3 (fun z => ?_) (fun z => h0 i hlt z))
    refine nm_r (nI_1 i) (ih (i + 1) (by omega) (by omega) (fun j z2 => ?_))
    by_cases e : j = i
    · rw [e]; exact z
    · exact hj j (by omega)
end SV
section MC
variable {n : Nat} {A : Nat → List Nat} {Z : Nat → Nat} {M : Nat → Prop} {u : St1} {post : Int32 → St1 → Prop}
theorem mw_feed (h : li_T n A Z M u) (hp : ∀ r u, li_T n A Z M u → post r u) (v1 v2 v3 v4 : Int32) : wpX_feed post u v1 v2 v3 v4 := by
  obtain ⟨q, ng, hy, pr, val, e2, act, m, T, L, ay, gs, so, E, B, pv, vl, el, rfl, hpr, hC, hI⟩ := h
  have hI0 := hI
  obtain ⟨hM, hW, hA, hg, hP, hv, hR, hV, hF⟩ := hI
  refine xp_feed hM hW.2.2.2.1 (fun hle T1 L1 hM1 => hp _ _ (li_mk hpr (li_keep hI0 hM1 (fun s a b => mm_set_n (by omega)) ?_))) (fun hgt T1 hM1 => hp _ _ (li_mk hpr (li_keep0 hI0 hM1 (fun _ _ => rfl))))
  rw [mm_set_s, List.length_append]
  exact hle
theorem mw_conj (h : li_T n A Z M u) (hp : ∀ r u, li_T n A Z M u → post r u) : wpX_conjecture post u := by
  obtain ⟨q, ng, hy, pr, val, e2, act, m, T, L, ay, gs, so, E, B, pv, vl, el, rfl, hpr, hC, hI⟩ := h
  have hI0 := hI
  obtain ⟨hM, hW, hA, hg, hP, hv, hR, hV, hF⟩ := hI
  have h48 := hW.2.2.2.1
  have hXn := mm_nil hM (s := 0) (by omega)
  have hkeep : li_T n A Z M (nI n, nI q, act, nI ng, T, upd L 0 0, ay, gs, so, E, B, pv, vl, el) := by
    refine li_mk hpr (li_keep hI0 hXn (fun s a b => mm_set_n (by omega)) ?_)
    rw [mm_set_s]
    exact Nat.zero_le _
  refine xp_conj hW hg hM (fun hno => hp _ _ hkeep) (fun e hQ hFc => hp _ _ hkeep) (fun e hQ hFc hq9 => hp _ _ hkeep) (fun e T1 L1 m1 hQ hFc hq9 hM1 x0 x1 x2 x3 x4 x5 x6 x7 => ?_)
  obtain ⟨qe, q61, sv, p1, p2⟩ := hQ
  have hE : iv_E (tm_sg n A Z) (iv_R m) (m1 (1 + 2 * q)) (m1 (1 + 2 * q + 1)) := by
    rw [x1, x2]
    refine ⟨sv, p1, p2, fun c hc hf => hFc c (List.mem_of_mem_take hc) hf, fun c hc hf => hFc c (List.mem_of_mem_drop hc) hf, ?_, ?_⟩
    · rw [List.length_take]
      omega
    · rw [List.length_drop]
      omega
  have hW2 : iv_W n A Z (q + 1) 1 (fun _ => false) m1 := iv_W_conj hq9 (fun s a b c d => x7 s (by omega) c d (by omega) (by omega) (by omega) (by omega)) (by rw [x0]; exact Nat.zero_le _) hE (by rw [x3, x1]) (by rw [x4, x2]) x5 x6 rfl hW
  have hprq : pr q = false := (hP q (by omega)).2 (Nat.le_refl _)
  refine hp _ _ (li_mk (ng := 1) (q := q + 1) (hy := fun _ => false) hpr ⟨hM1, hW2, Or.inr ⟨q, by omega, rfl, Nat.le_refl _, hprq⟩, hg, ?_, hv, li_RVx (fun i hi => x7 (17 + i) (by omega) (by omega) (by omega) (by omega) (by omega) (by omega) (by omega)) hR, ?_, ?_⟩)
  · intro j hj
    exact ⟨(hP j hj).1, fun z => (hP j hj).2 (by omega)⟩
  · intro j hj hpj
    have hne : j ≠ q := by
      intro z
      rw [z, hprq] at hpj
      cases hpj
    rw [x7 (1 + 2 * j) (by omega) (by omega) (by omega) (by omega) (by omega) (by omega) (by omega), x7 (1 + 2 * j + 1) (by omega) (by omega) (by omega) (by omega) (by omega) (by omega) (by omega)]
    exact hV j hj hpj
  · intro j hj z hgo
    have e9 : q = j := (nI_eq (by omega) (by omega)).mp z
    subst e9
    intro rho
    have k := hgo 0 (by omega) rho
    have e49 : m1 (49 + 4 * 0) = (m 0).take e := x3
    have e50 : m1 (49 + 4 * 0 + 1) = (m 0).drop (e + 1) := x4
    have e51 : m1 (49 + 4 * 0 + 2) = [] := x5
    have e52 : m1 (49 + 4 * 0 + 3) = [] := x6
    rw [e49, e50, e51, e52] at k
    rw [x1, x2]
    exact k rfl
theorem mw_status {post : Int32 → Prop} (h : li_T n A Z M u) {j : Nat} (hj : j < 8) (hp : ∀ r, (M j → r = 3) → (r = 3 → li_T n A Z (fun i => M i ∨ i = j) u) → post r) : wpX_status post u (nI j) := by
  obtain ⟨q, ng, hy, pr, val, e2, act, m, T, L, ay, gs, so, E, B, pv, vl, el, rfl, hpr, hC, hI⟩ := h
  have hI0 := hI
  obtain ⟨hM, hW, hA, hg, hP, hv, hR, hV, hF⟩ := hI
  have hq := hW.2.1
  obtain ⟨p1, p2⟩ := hP j hj
  have hno : pr j ≠ true → ∀ r, r ≠ 3 → post r := fun z r hr => hp r (fun y => absurd (hpr j hj y) z) (fun y => absurd y hr)
  unfold wpX_status
  dsimp only
  refine br_f (nI_pos (by omega)) ?_
  rw [nI_clamp (n := j) (by omega), p1]
  by_cases hjq : j < q
  · refine br_t (nI_lt hjq (by omega)) ⟨vp_in_nI hj (by omega), ?_⟩
    by_cases hpj : pr j = true
    · rw [if_pos hpj]
      refine br_f (by decide) (hp 3 (fun _ => rfl) (fun _ => ?_))
      refine li_mk (fun k hk hm => ?_) hI0
      rcases hm with hm | hm
      · exact hpr k hk hm
      · rw [hm]
        exact hpj
    · rw [if_neg hpj]
      refine br_t rfl ?_
      by_cases ha : nI j = act
      · exact br_t ha (hno hpj 2 (by decide))
      · exact br_f ha (hno hpj 1 (by decide))
  · refine br_f (nI_nlt (by omega) (by omega)) (hno ?_ 0 (by decide))
    rw [p2 (by omega)]
    decide
theorem mw_eval (h : li_T n A Z M u) {j : Nat} (hj : j < 8) (hm : M j) (hp : ∀ r u, r ≠ 2 → li_T n A Z M u → post r u) : wpX_evaluate post u (nI j) := by
  obtain ⟨q, ng, hy, pr, val, e2, act, m, T, L, ay, gs, so, E, B, pv, vl, el, rfl, hpr, hC, hI⟩ := h
  have hI0 := hI
  obtain ⟨hM, hW, hA, hg, hP, hv, hR, hV, hF⟩ := hI
  have hq := hW.2.1
  have hpj := hpr j hj hm
  have hjq : j < q := by
    apply Nat.lt_of_not_le
    intro z
    rw [(hP j hj).2 z] at hpj
    cases hpj
  obtain ⟨sg, w1, w2, w3, w4, w5, w6⟩ := hW.2.2.2.2.1.1 j hjq
  refine xp_eval hv hW hg hM hjq (fun _ T1 L1 E1 B1 m1 hM1 f1 => hp _ _ (by decide) (li_mk hpr (li_keep0 hI0 hM1 f1))) (fun x y hx hyy T1 L1 E1 B1 m1 hM1 f1 => ⟨fun _ => hp _ _ (by decide) (li_mk hpr (li_keep0 hI0 hM1 f1)), fun z => ?_⟩)
  exact absurd (sd_eval hW.1 hW.2.2.2.2.2.1.1 hR w1 w2 w3 w4 (hV j hj hpj) hx hyy) z
theorem mw_setVar (h : li_T n A Z M u) (hp : ∀ r u, li_T n A Z M u → post r u) (v1 v2 v3 : Int32) : wpX_setVar post u v1 v2 v3 := by
  have h2 := h
  obtain ⟨q, ng, hy, pr, val, e2, act, m, T, L, ay, gs, so, E, B, pv, vl, el, rfl, hpr, hC, hI⟩ := h
  have hI0 := hI
  obtain ⟨hM, hW, hA, hg, hP, hv, hR, hV, hF⟩ := hI
  unfold wpX_setVar
  dsimp only
  by_cases h0 : v1 < 0
  · exact br_t h0 (hp _ _ h2)
  · obtain ⟨w, hw, rfl⟩ := nI_of h0
    refine br_f h0 ?_
    by_cases h16 : w < 16
    · have a16 : ¬ (16 : Int32) ≤ nI w := nI_ge (b := 16) h16 (by decide)
      refine br_f a16 ?_
      by_cases hneg : v2 < 0
      · have hng : ¬ (0 : Int32) ≤ v2 := Int32.not_le.mpr hneg
        exact br_f hng (hp _ _ h2)
      · have hng : (0 : Int32) ≤ v2 := Int32.not_lt.mp hneg
        obtain ⟨a, ha, rfl⟩ := nI_of hneg
        refine br_t hng ?_
        by_cases w8 : w < 8
        · have b8 : ¬ (8 : Int32) ≤ nI w := nI_ge (b := 8) w8 (by decide)
          refine br_f b8 ?_
          by_cases a7 : a ≤ 7
          · have c7 : nI a ≤ 7 := nI_le (b := 7) a7 (by decide)
            have hin : vp_in (nI w) 16 := vp_in_nI h16 (by omega)
            refine br_t c7 ⟨hin, nm_e (hp _ _ ?_)⟩
            rw [nI_clamp (n := w) (by omega)]
            obtain ⟨val', q1, q2⟩ : ∃ f : Nat → Nat, f w = a ∧ ∀ x, x ≠ w → f x = val x := ⟨fun x => if x = w then a else val x, if_pos rfl, fun x h => if_neg h⟩
            refine li_mk (val := val') (e2 := e2) hpr ⟨hM, hW, hA, hg, hP, fun x hx => ?_, hR, hV, hF⟩
            by_cases e : x = w
            · subst e
              rw [mm_us, q1]
              exact ⟨rfl, a7, fun z => by omega⟩
            · rw [mm_un e, q2 x e]
              exact hv x hx
          · have c7 : ¬ nI a ≤ 7 := nI_ge (a := 7) (by omega) ha
            exact br_f c7 (hp _ _ h2)
        · have b8 : (8 : Int32) ≤ nI w := nI_le (a := 8) (by omega) hw
          refine br_t b8 ?_
          by_cases a4 : a ≤ 4
          · have c4 : nI a ≤ 4 := nI_le (b := 4) a4 (by decide)
            refine br_t c4 ⟨a + 1, sx_49 h16 a4 (fun hok => hp _ _ ?_) (fun j hj hbad => hp _ _ h2) (a + 1) 0 (by omega) (Nat.zero_le _) (fun j z => absurd z (Nat.not_lt_zero _))⟩
            obtain ⟨val', q1, q2⟩ : ∃ f : Nat → Nat, f w = a ∧ ∀ x, x ≠ w → f x = val x := ⟨fun x => if x = w then a else val x, if_pos rfl, fun x h => if_neg h⟩
            obtain ⟨e3, r1, r2⟩ : ∃ f : Nat → Nat → Nat, f w = nb_i v3 ∧ ∀ x, x ≠ w → f x = e2 x := ⟨fun x => if x = w then nb_i v3 else e2 x, if_pos rfl, fun x h => if_neg h⟩
            refine li_mk (val := val') (e2 := e3) hpr ⟨hM, hW, hA, hg, hP, fun x hx => ?_, hR, hV, hF⟩
            by_cases e : x = w
            · subst e
              rw [mm_us, mm_us, q1, r1]
              refine ⟨rfl, by omega, fun _ => ⟨a4, fun i hi => ⟨hok i hi, ?_⟩⟩⟩
              have := nb_e v3 i
              rw [show (4 : Int32) * nI i = nI (4 * i) from pk_mul 4 i] at this
              exact this
            · rw [mm_un e, mm_un e, q2 x e, r2 x e]
              exact hv x hx
          · have c4 : ¬ nI a ≤ 4 := nI_ge (a := 4) (by omega) ha
            exact br_f c4 (hp _ _ h2)
    · have a16 : (16 : Int32) ≤ nI w := nI_le (a := 16) (by omega) hw
      exact br_t a16 (hp _ _ h2)
end MC
