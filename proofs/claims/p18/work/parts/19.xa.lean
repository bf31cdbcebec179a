/-! 19: the class: evaluate -/
section XJ
variable {xn xq xa xg : Int32} {T L ay gs so E B pv vl el : Nat → Int32} {m : Nat → List Nat} {n q ng : Nat} {A : Nat → List Nat} {Z : Nat → Nat} {hy : Nat → Bool} {val : Nat → Nat} {e2 : Nat → Nat → Nat}
theorem xl_num {post : St1 → Prop} {t k : Nat} (ht : t < 86) (hk : k < 100) (h : ∀ T' L', mm_M 49 86 T' L' (mm_set m t ((m t ++ tm_nu k).take 49)) → post (xn, xq, xa, xg, T', L', ay, gs, so, E, B, pv, vl, el)) :
    ∀ f i T L, k < f + i → i ≤ k → mm_M 49 86 T L (mm_set m t ((m t ++ List.replicate i 83).take 49)) → wX_appendNumber_2 post (nI t) (nI k) f (nI i) xn xq xa xg T L ay gs so E B pv vl el := by
  intro f
  induction f with
  | zero => intro i T L a b; omega
  | succ f ih =>
    intro i T L a b hM
    rw [wX_appendNumber_2]
    dsimp only
    refine pk_le k i (fun hge => ?_) (fun hlt => ?_)
    · have e : i = k := by omega
      subst e
      refine xp_append (c := 90) hM ht (by omega) (fun T1 L1 hM1 => ?_)
      rw [mm_set_s, mm_set_set, mm_tt, List.append_assoc] at hM1
      exact h T1 L1 hM1
    · refine xp_append (c := 83) hM ht (by omega) (fun T1 L1 hM1 => ?_)
      rw [mm_set_s, mm_set_set, mm_tt, List.append_assoc, ← List.replicate_succ'] at hM1
      exact nm_r (nI_1 i) (ih (i + 1) T1 L1 (by omega) (by omega) hM1)
theorem xp_num {post : St1 → Prop} (hM : mm_M 49 86 T L m) {t k : Nat} (ht : t < 86) (hk : k < 100) (h : ∀ T' L', mm_M 49 86 T' L' (mm_set m t ((m t ++ tm_nu k).take 49)) → post (xn, xq, xa, xg, T', L', ay, gs, so, E, B, pv, vl, el)) : wpX_appendNumber post (xn, xq, xa, xg, T, L, ay, gs, so, E, B, pv, vl, el) (nI t) (nI k) := by
  unfold wpX_appendNumber
  dsimp only
  refine ⟨k + 1, xl_num ht hk h (k + 1) 0 T L (by omega) (Nat.zero_le _) ?_⟩
  rw [List.replicate_zero, List.append_nil, mm_tl (mm_le hM ht), mm_set_self]
  exact hM
theorem xl_lst {post : St1 → Prop} {t v : Nat} (hev : ev_X val e2 vl el) (ht : t < 86) (hv : v < 16) (hv8 : 8 ≤ v) (h : ∀ T' L', mm_M 49 86 T' L' (mm_set m t ((m t ++ tm_vl val e2 v).take 49)) → post (xn, xq, xa, xg, T', L', ay, gs, so, E, B, pv, vl, el)) :
    ∀ f i T L, val v < f + i → i ≤ val v → mm_M 49 86 T L (mm_set m t ((m t ++ tm_el (e2 v) i).take 49)) → wX_appendList_2 post (nI t) (nI v) f (nI i) xn xq xa xg T L ay gs so E B pv vl el := by
  obtain ⟨hvl, h7, h8⟩ := hev v hv
  obtain ⟨h4, he⟩ := h8 hv8
  intro f
  induction f with
  | zero => intro i T L a b; omega
  | succ f ih =>
    intro i T L a b hM
    rw [wX_appendList_2]
    dsimp only
    rw [nI_clamp (n := v) (by omega), hvl]
    refine ⟨vp_in_nI hv (by omega), pk_le (val v) i (fun hge => ?_) (fun hlt => ?_)⟩
    · have e : i = val v := by omega
      subst e
      refine xp_append (c := 78) hM ht (by omega) (fun T1 L1 hM1 => ?_)
      rw [mm_set_s, mm_set_set, mm_tt, List.append_assoc] at hM1
      apply h
      unfold tm_vl
      rw [if_neg (by omega)]
      exact hM1
    · refine xp_append (c := 67) hM ht (by omega) (fun T1 L1 hM1 => ?_)
      rw [mm_set_s, mm_set_set, mm_tt] at hM1
      refine ⟨vp_in_nI hv (by omega), ?_⟩
      dsimp only
      obtain ⟨e3, e4⟩ := he i hlt
      rw [show (4 : Int32) * nI i = nI (4 * i) from pk_mul 4 i, e4]
      refine xp_num hM1 ht (by omega) (fun T2 L2 hM2 => ?_)
      rw [mm_set_s, mm_set_set, mm_tt, List.append_assoc, List.append_assoc] at hM2
      exact nm_r (nI_1 i) (ih (i + 1) T2 L2 (by omega) (by omega) hM2)
theorem xp_lst {post : St1 → Prop} (hM : mm_M 49 86 T L m) {t v : Nat} (hev : ev_X val e2 vl el) (ht : t < 86) (hv : v < 16) (hv8 : 8 ≤ v) (h : ∀ T' L', mm_M 49 86 T' L' (mm_set m t ((m t ++ tm_vl val e2 v).take 49)) → post (xn, xq, xa, xg, T', L', ay, gs, so, E, B, pv, vl, el)) : wpX_appendList post (xn, xq, xa, xg, T, L, ay, gs, so, E, B, pv, vl, el) (nI t) (nI v) := by
  unfold wpX_appendList
  dsimp only
  refine ⟨val v + 1, xl_lst hev ht hv hv8 h _ 0 T L (by omega) (Nat.zero_le _) ?_⟩
  show mm_M 49 86 T L (mm_set m t ((m t ++ []).take 49))
  rw [List.append_nil, mm_tl (mm_le hM ht), mm_set_self]
  exact hM
theorem xl_gr {post : St1 → Prop} {s t : Nat} (hev : ev_X val e2 vl el) (hs : s < 86) (ht : t < 86) (hst : s ≠ t) (hl49 : (m s).length ≤ 49) (h : ∀ T' L', mm_M 49 86 T' L' (mm_set m t ((tm_gk val e2 16 (m s)).take 49)) → post (xn, xq, xa, xg, T', L', ay, gs, so, E, B, pv, vl, el)) :
    ∀ f i T L, (m s).length < f + i → i ≤ (m s).length → mm_M 49 86 T L (mm_set m t ((tm_gk val e2 16 ((m s).take i)).take 49)) → wX_writeGround_9 post (nI s) (nI t) f (nI i) xn xq xa xg T L ay gs so E B pv vl el := by
  intro f
  induction f with
  | zero => intro i T L a b; omega
  | succ f ih =>
    intro i T L a b hM
    have es : mm_set m t ((tm_gk val e2 16 ((m s).take i)).take 49) s = m s := mm_set_n hst
    rw [wX_writeGround_9]
    dsimp only
    rw [nI_clamp (n := s) (by omega), mm_len hM hs, es]
    refine ⟨vp_in_nI hs (by omega), pk_le (m s).length i (fun hge => ?_) (fun hlt => ?_)⟩
    · rw [mm_tl hge] at hM
      exact h T L hM
    · have hb := mm_b hM hs i
      rw [es] at hb
      have hstep : ∀ u T' L', tm_g1 val e2 16 (tm_at (m s) i) = u → mm_M 49 86 T' L' (mm_set m t ((tm_gk val e2 16 ((m s).take i) ++ u).take 49)) → wX_writeGround_9 post (nI s) (nI t) f (nI i + 1) xn xq xa xg T' L' ay gs so E B pv vl el := by
        intro u T' L' hu hM'
        rw [nI_1]
        refine ih (i + 1) T' L' (by omega) (by omega) ?_
        have e : tm_gk val e2 16 ((m s).take (i + 1)) = tm_gk val e2 16 ((m s).take i) ++ u := by
          rw [← mm_snoc hlt, ← hu]
          unfold tm_gk
          rw [List.flatMap_append, List.flatMap_singleton]
        rw [e]
        exact hM'
      refine xp_sym hM hs (by omega) ?_
      rw [es]
      refine xp_vnum (by omega) (fun v hv hv16 => ?_) (fun hv => ?_)
      · obtain ⟨hvl, h7, _⟩ := hev v hv16
        refine br_t (nI_pos' (by omega)) (pk_le 8 v (fun h8 => ?_) (fun h8 => ?_))
        · refine xp_lst hM hev ht hv16 h8 (fun T1 L1 hM1 => nm_e (hstep _ T1 L1 (tm_g1_v hv hv16) ?_))
          rw [mm_set_s, mm_set_set, mm_tt] at hM1
          exact hM1
        · rw [nI_clamp (n := v) (by omega), hvl]
          refine ⟨vp_in_nI hv16 (by omega), ?_⟩
          refine xp_num hM ht (by omega) (fun T1 L1 hM1 => nm_e (hstep _ T1 L1 (tm_g1_v hv hv16) ?_))
          rw [mm_set_s, mm_set_set, mm_tt] at hM1
          unfold tm_vl
          rw [if_pos h8]
          exact hM1
      · refine br_f (by decide) ?_
        refine xp_append hM ht hb (fun T1 L1 hM1 => nm_e (hstep _ T1 L1 (tm_g1_n hv) ?_))
        rw [mm_set_s, mm_set_set, mm_tt] at hM1
        exact hM1
theorem xp_gr {post : St1 → Prop} (hM : mm_M 49 86 T L m) {s t : Nat} (hev : ev_X val e2 vl el) (hs : s < 86) (ht : t < 86) (hst : s ≠ t) (h : ∀ T' L', mm_M 49 86 T' L' (mm_set m t ((tm_gk val e2 16 (m s)).take 49)) → post (xn, xq, xa, xg, T', L', ay, gs, so, E, B, pv, vl, el)) : wpX_writeGround post (xn, xq, xa, xg, T, L, ay, gs, so, E, B, pv, vl, el) (nI s) (nI t) := by
  unfold wpX_writeGround
  dsimp only
  rw [nI_clamp (n := t) (by omega)]
  exact ⟨vp_in_nI ht (by omega), nm_e ⟨(m s).length + 1, xl_gr hev hs ht hst (mm_le hM hs) h _ 0 T _ (by omega) (Nat.zero_le _) (mm_nil hM ht)⟩⟩
theorem xp_eval {post : Int32 → St1 → Prop} {k : Nat} (hev : ev_X val e2 vl el) (hW : iv_W n A Z q ng hy m) (hg : sg_X (tm_sg n A Z) ay gs so) (hM : mm_M 49 86 T L m) (hk : k < q)
    (hU : tm_N (tm_sg n A Z) (iv_R m) (tm_gk val e2 16 (m (1 + 2 * k))) = none ∨ tm_N (tm_sg n A Z) (iv_R m) (tm_gk val e2 16 (m (1 + 2 * k + 1))) = none → ∀ T' L' E' B' m', mm_M 49 86 T' L' m' → (∀ s, s < 81 → m' s = m s) → post 3 (xn, nI q, xa, xg, T', L', ay, gs, so, E', B', pv, vl, el))
    (hO : ∀ u v, tm_N (tm_sg n A Z) (iv_R m) (tm_gk val e2 16 (m (1 + 2 * k))) = some u → tm_N (tm_sg n A Z) (iv_R m) (tm_gk val e2 16 (m (1 + 2 * k + 1))) = some v → ∀ T' L' E' B' m', mm_M 49 86 T' L' m' → (∀ s, s < 81 → m' s = m s) → (u = v → post 1 (xn, nI q, xa, xg, T', L', ay, gs, so, E', B', pv, vl, el)) ∧ (u ≠ v → post 2 (xn, nI q, xa, xg, T', L', ay, gs, so, E', B', pv, vl, el))) : wpX_evaluate post (xn, nI q, xa, xg, T, L, ay, gs, so, E, B, pv, vl, el) (nI k) := by
  unfold wpX_evaluate
  dsimp only
  obtain ⟨hS, hq8, hg8, h48, hWf, hWr, hWg⟩ := hW
  obtain ⟨s9, w1, w2, w3, w4, w5, w6⟩ := hWf.1 k hk
  refine br_f (nI_pos (by omega)) (br_t (nI_lt hk (by omega)) ?_)
  rw [show (1 : Int32) + 2 * nI k = nI (1 + 2 * k) from by rw [show (2 : Int32) * nI k = nI (2 * k) from pk_mul 2 k]; exact nI_add 1 _]
  refine nm_e ?_
  refine xp_gr (t := 81) hM hev (by omega) (by omega) (by omega) (fun T1 L1 hM1 => ?_)
  rw [nI_1]
  refine xp_gr (t := 82) hM1 hev (by omega) (by omega) (by omega) (fun T2 L2 hM2 => ?_)
  rw [mm_set_n (m := m) (s := 81) (j := 1 + 2 * k + 1) (by omega)] at hM2
  have hFC : ∀ w, tm_FC (iv_R m) w → tm_FC (iv_R m) (tm_gk val e2 16 w) := by
    intro w hw c hc hf
    rcases tm_gk_mem w hc with h | h
    · exact hw c h hf
    · omega
  generalize hm2 : mm_set (mm_set m 81 ((tm_gk val e2 16 (m (1 + 2 * k))).take 49)) 82 ((tm_gk val e2 16 (m (1 + 2 * k + 1))).take 49) = m2 at hM2
  have d1 : m2 81 = (tm_gk val e2 16 (m (1 + 2 * k))).take 49 := by rw [← hm2, mm_set_n (by omega), mm_set_s]
  have d2 : m2 82 = (tm_gk val e2 16 (m (1 + 2 * k + 1))).take 49 := by rw [← hm2, mm_set_s]
  have df : ∀ s, s < 81 → m2 s = m s := fun s hs => by rw [← hm2, mm_set_n (by omega), mm_set_n (by omega)]
  have hR2 : ∀ i, i < 32 → iv_R m2 i = iv_R m i := fun i hi => df _ (by omega)
  refine xp_normN (s := 81) (S := [s9]) hS (iv_RU_mono (fun _ _ h => h) hR2 hWr.1) hg hM2 (by omega) (by omega) ?_ ?_ ?_
  · rw [d1]
    intro hl
    rw [List.length_take] at hl
    rw [mm_tl (by omega)]
    exact ⟨tm_gk_P _ _ w1, iv_FC_ext (iv_eqne hR2) (hFC _ w3)⟩
  · rw [d1, tm_N_take, tm_N_ext hR2]
    intro u hu T3 L3 E3 B3 m3 hM3 e3 f3
    refine br_f (by decide) ?_
    have hR3 : ∀ i, i < 32 → iv_R m3 i = iv_R m i := fun i hi => by
      show m3 _ = _
      rw [f3 _ (by omega) (by omega)]
      exact df _ (by omega)
    have d3 : m3 82 = (tm_gk val e2 16 (m (1 + 2 * k + 1))).take 49 := by rw [f3 82 (by omega) (by omega), d2]
    refine xp_normN (s := 82) (S := [s9]) hS (iv_RU_mono (fun _ _ h => h) hR3 hWr.1) hg hM3 (by omega) (by omega) ?_ ?_ ?_
    · rw [d3]
      intro hl
      rw [List.length_take] at hl
      rw [mm_tl (by omega)]
      exact ⟨tm_gk_P _ _ w2, iv_FC_ext (iv_eqne hR3) (hFC _ w4)⟩
    · rw [d3, tm_N_take, tm_N_ext hR3]
      intro v hv T4 L4 E4 B4 m4 hM4 e4 f4
      refine br_f (by decide) ?_
      have a1 : m4 81 = u := by rw [f4 81 (by omega) (by omega), e3]
      obtain ⟨o1, o2⟩ := hO u v hu hv T4 L4 E4 B4 m4 hM4 (fun s hs => by rw [f4 s (by omega) (by omega), f3 s (by omega) (by omega), df s hs])
      refine xp_sameT (a := 81) (b := 82) hM4 (by omega) (by omega) ?_ ?_
      · rw [a1, e4]
        exact fun e => br_f (by decide) (o1 e)
      · rw [a1, e4]
        exact fun e => br_t rfl (o2 e)
    · rw [d3, tm_N_take, tm_N_ext hR3]
      intro hv T4 L4 E4 B4 m4 hM4 f4
      exact br_t rfl (hU (Or.inr hv) T4 L4 E4 B4 m4 hM4 (fun s hs => by rw [f4 s (by omega) (by omega), f3 s (by omega) (by omega), df s hs]))
  · rw [d1, tm_N_take, tm_N_ext hR2]
    intro hu T3 L3 E3 B3 m3 hM3 f3
    exact br_t rfl (hU (Or.inl hu) T3 L3 E3 B3 m3 hM3 (fun s hs => by rw [f3 s (by omega) (by omega), df s hs]))
end XJ
