/-! 22: texts without variables stay so; a true equation never evaluates to two different texts: pure -/
theorem se_mt_b {g : tm_G} {w : List Nat} (p : List Nat) : ∀ q b r, tm_mt g true w p q b = some r → ∀ c v, c ∈ p → tm_vn c = some v → ∃ q0, r.2 v = some q0 := by
  induction p with
  | nil => exact fun q b r _ c v hc => nomatch hc
  | cons d p ih =>
    intro q b r h c v hc hv
    obtain ⟨hq, hcs⟩ := tm_mt_inv h
    rcases List.mem_cons.mp hc with e | hc
    · subst e
      rcases hcs with ⟨v', _, hvc, hb⟩ | ⟨hs, _, _⟩
      · rw [hv] at hvc
        obtain rfl := Option.some.inj hvc
        rcases hb with ⟨_, hm⟩ | ⟨q0, hb, _, hm⟩
        · exact ⟨q, (se_mt _ _ _ _ (Or.inl rfl) hm).1 v q (by unfold tm_bu; rw [if_pos rfl])⟩
        · exact ⟨q0, (se_mt _ _ _ _ (Or.inl rfl) hm).1 v q0 hb⟩
      · rcases hs with z | z
        · cases z
        · rw [hv] at z
          cases z
    · rcases hcs with ⟨_, _, _, ⟨_, hm⟩ | ⟨_, _, _, hm⟩⟩ | ⟨_, _, hm⟩
      · exact ih _ _ _ hm c v hc hv
      · exact ih _ _ _ hm c v hc hv
      · exact ih _ _ _ hm c v hc hv
def se_gr (w : List Nat) : Prop := ∀ c, c ∈ w → tm_vn c = none
theorem se_in_g {g : tm_G} {w : List Nat} {b : Nat → Option Nat} (hw : se_gr w) (p : List Nat) (hb : ∀ c v, c ∈ p → tm_vn c = some v → ∃ q0, b v = some q0) : se_gr (tm_in g w b p) := by
  intro c hc
  rw [se_in_fm] at hc
  obtain ⟨d, hd, hcd⟩ := List.mem_flatMap.mp hc
  cases hv : tm_vn d with
  | none =>
    rw [tm_i1_n hv] at hcd
    rw [List.mem_singleton.mp hcd]
    exact hv
  | some v =>
    obtain ⟨q0, hq⟩ := hb d v hd hv
    rw [tm_i1_b hv hq] at hcd
    exact hw c (tm_sub_mem hcd)
theorem se_st_g {g : tm_G} {R : Nat → List Nat} {w S : List Nat} {i : Nat} (hG : tm_GS g) (hR : tm_RU g R) (hV : se_RV g R) (hP : tm_P g S w) (hF : tm_FC R w) (hr : tm_rd w i) (hw : se_gr w) : se_gr (tm_st g R w i) := by
  obtain ⟨r, hm, hne, hst, _, _⟩ := tm_st_ok hG hR hP hF hr
  have hfn : tm_fn (tm_at w i) := hr.1
  obtain ⟨k, hk⟩ : ∃ k, tm_kd (tm_at w (i + 1)) = some k := Option.ne_none_iff_exists'.mp hr.2
  have hk2 : k < 2 := by
    have := tm_kd_c hk
    omega
  have hri : tm_ri w i = 4 * (tm_at w i - 70) + 2 * k := by
    unfold tm_ri
    rw [hk]
    rfl
  rw [hri] at hm hne hst
  have hvar := (hV (tm_at w i - 70) k (by omega) hk2 hne).2
  rw [hst]
  intro c hc
  rcases List.mem_append.mp hc with h | h
  · exact hw c (List.mem_of_mem_take h)
  · rcases List.mem_append.mp h with h | h
    · refine se_in_g hw _ (fun d v hd hv => ?_) c h
      refine se_mt_b _ _ _ _ hm d v (hvar d hd ?_) hv
      rw [hv]
      exact Option.some_ne_none v
    · exact hw c (List.mem_of_mem_drop h)
theorem se_nz_g {g : tm_G} {R : Nat → List Nat} {S : List Nat} (hG : tm_GS g) (hR : tm_RU g R) (hV : se_RV g R) (n : Nat) : ∀ w w', tm_P g S w → tm_FC R w → se_gr w → tm_nz g R n w = some w' → se_gr w' := by
  induction n with
  | zero =>
    intro w w' hP hF hw h
    cases hx : tm_rx w w.length with
    | none =>
      rw [tm_nz_no hx] at h
      rw [← Option.some.inj h]
      exact hw
    | some i =>
      rw [tm_nz_0 hx] at h
      cases h
  | succ n ih =>
    intro w w' hP hF hw h
    cases hx : tm_rx w w.length with
    | none =>
      rw [tm_nz_no hx] at h
      rw [← Option.some.inj h]
      exact hw
    | some i =>
      rw [tm_nz_s hx] at h
      have hrd := (tm_rx_lt _ _ hx).2
      obtain ⟨r, _, _, _, h1, h2⟩ := tm_st_ok hG hR hP hF hrd
      by_cases h3 : (tm_st g R w i).length ≤ 48
      · rw [if_pos h3] at h
        exact ih _ _ h1 h2 (se_st_g hG hR hV hP hF hrd hw) h
      · rw [if_neg h3] at h
        cases h
theorem se_N_g {g : tm_G} {R : Nat → List Nat} {S : List Nat} (hG : tm_GS g) (hR : tm_RU g R) (hV : se_RV g R) {w w' : List Nat} (hP : tm_P g S w) (hF : tm_FC R w) (hw : se_gr w) (h : tm_N g R w = some w') : se_gr w' := by
  unfold tm_N at h
  by_cases hl : w.length ≤ 48
  · rw [if_pos hl] at h
    exact se_nz_g hG hR hV 128 w w' hP hF hw h
  · rw [if_neg hl] at h
    cases h
theorem se_gk_g {val : Nat → Nat} {el : Nat → Nat → Nat} (w : List Nat) : se_gr (tm_gk val el 16 w) := by
  intro c hc
  obtain ⟨d, _, hcd⟩ := List.mem_flatMap.mp hc
  cases hv : tm_vn d with
  | none =>
    rw [tm_g1_n hv] at hcd
    rw [List.mem_singleton.mp hcd]
    exact hv
  | some v =>
    rw [tm_g1_v hv (tm_vn_ch hv).2] at hcd
    rcases tm_vl_mem hcd with e | e | e | e <;> rw [e] <;> decide
theorem se_gk {n : Nat} {A : Nat → List Nat} {Z : Nat → Nat} (hV : tm_V (tm_sg n A Z)) {val : Nat → Nat} {el : Nat → Nat → Nat} (rho : Nat → Nat) (w : List Nat) : se_v (tm_sg n A Z) rho (tm_gk val el 16 w) = se_v (tm_sg n A Z) (fun v => tm_at (se_v (tm_sg n A Z) rho (tm_vl val el v)) 0) w := by
  unfold tm_gk
  apply se_fm hV
  intro c _
  cases hv : tm_vn c with
  | none => exact Or.inl ⟨tm_g1_n hv, fun v z => nomatch z⟩
  | some v =>
    have hP := tm_vl_P (n := n) (A := A) (Z := Z) val el v
    refine Or.inr ⟨v, if v < 8 then 0 else 1, rfl, ?_, ?_⟩
    · rw [tm_g1_v hv (tm_vn_ch hv).2]
      exact hP
    · rw [tm_g1_v hv (tm_vn_ch hv).2]
      exact se_v_one rho hP
/-- two texts mean the same -/
def sd_V (g : tm_G) (u w : List Nat) : Prop := ∀ rho, se_v g rho u = se_v g rho w
theorem sd_eval {n : Nat} {A : Nat → List Nat} {Z : Nat → Nat} {R : Nat → List Nat} {l r x y : List Nat} {s : Nat} {val : Nat → Nat} {el : Nat → Nat → Nat} (hS : tm_SG n A Z) (hR : tm_RU (tm_sg n A Z) R) (hV : se_RV (tm_sg n A Z) R) (w1 : tm_P (tm_sg n A Z) [s] l) (w2 : tm_P (tm_sg n A Z) [s] r) (f1 : tm_FC R l) (f2 : tm_FC R r) (hE : sd_V (tm_sg n A Z) l r)
    (hx : tm_N (tm_sg n A Z) R (tm_gk val el 16 l) = some x) (hy : tm_N (tm_sg n A Z) R (tm_gk val el 16 r) = some y) : x = y := by
  have hG := tm_sg_GS hS
  have hFC : ∀ w, tm_FC R w → tm_FC R (tm_gk val el 16 w) := by
    intro w hw c hc hf
    rcases tm_gk_mem w hc with h | h
    · exact hw c h hf
    · omega
  have p1 := tm_gk_P (val := val) (el := el) (k := 16) _ _ w1
  have p2 := tm_gk_P (val := val) (el := el) (k := 16) _ _ w2
  obtain ⟨vx, nx⟩ := se_N hG hR hV p1 (hFC _ f1) hx
  obtain ⟨vy, ny⟩ := se_N hG hR hV p2 (hFC _ f2) hy
  have gx := se_N_g hG hR hV p1 (hFC _ f1) (se_gk_g l) hx
  have gy := se_N_g hG hR hV p2 (hFC _ f2) (se_gk_g r) hy
  obtain ⟨px, _, _⟩ := tm_N_ok hG hR (fun _ => ⟨p1, hFC _ f1⟩) hx
  obtain ⟨py, _, _⟩ := tm_N_ok hG hR (fun _ => ⟨p2, hFC _ f2⟩) hy
  have kx : ∀ c, c ∈ x → tm_kd c ≠ none := by
    intro c hc
    obtain ⟨i, hi, rfl⟩ := tm_mem_at hc
    exact se_cons_i hS px gx nx _ i (Nat.le_refl _) hi
  have ky : ∀ c, c ∈ y → tm_kd c ≠ none := by
    intro c hc
    obtain ⟨i, hi, rfl⟩ := tm_mem_at hc
    exact se_cons_i hS py gy ny _ i (Nat.le_refl _) hi
  refine se_uniq (rho := fun _ => 0) x [s] y kx ky px py ?_
  rw [vx, vy, se_gk hG.1, se_gk hG.1]
  exact hE _
/-! goals -/
def sd_G (g : tm_G) (m : Nat → List Nat) (s : Nat) : Prop := ∀ rho, se_v g rho (m (s + 2)) = se_v g rho (m (s + 3)) → se_v g rho (m s) = se_v g rho (m (s + 1))
theorem sd_step {g : tm_G} {m m' : Nat → List Nat} {ng ng' : Nat} {F : Prop} (h1 : ng - 1 ≤ ng') (hf : ∀ s, 49 ≤ s → s < 49 + 4 * (ng - 1) → m' s = m s) (hs : (∀ j, ng - 1 ≤ j → j < ng' → sd_G g m' (49 + 4 * j)) → sd_G g m (49 + 4 * (ng - 1))) (h : (∀ j, j < ng → sd_G g m (49 + 4 * j)) → F) : (∀ j, j < ng' → sd_G g m' (49 + 4 * j)) → F := by
  intro h'
  apply h
  intro j hj
  by_cases e : j = ng - 1
  · rw [e]
    exact hs (fun i _ hi => h' i hi)
  · intro rho hh
    have k := h' j (by omega) rho
    rw [hf (49 + 4 * j) (by omega) (by omega), hf (49 + 4 * j + 1) (by omega) (by omega), hf (49 + 4 * j + 2) (by omega) (by omega), hf (49 + 4 * j + 3) (by omega) (by omega)] at k
    exact k hh
theorem sd_set {g : tm_G} {m m' : Nat → List Nat} {s0 : Nat} (e2 : m' (s0 + 2) = m (s0 + 2)) (e3 : m' (s0 + 3) = m (s0 + 3)) (h0 : ∀ rho, se_v g rho (m (s0 + 2)) = se_v g rho (m (s0 + 3)) → se_v g rho (m' s0) = se_v g rho (m s0)) (h1 : ∀ rho, se_v g rho (m (s0 + 2)) = se_v g rho (m (s0 + 3)) → se_v g rho (m' (s0 + 1)) = se_v g rho (m (s0 + 1))) (h : sd_G g m' s0) : sd_G g m s0 := by
  intro rho hh
  have k := h rho (by rw [e2, e3]; exact hh)
  rw [h0 rho hh, h1 rho hh] at k
  exact k
theorem sd_same {g : tm_G} {m : Nat → List Nat} {s0 : Nat} (h : m s0 = m (s0 + 1)) : sd_G g m s0 := by
  intro rho _
  rw [h]
/-! one variable's value changed -/
def se_up (rho : Nat → Nat) (v x : Nat) : Nat → Nat := fun u => if u = v then x else rho u
theorem se_up_s {rho : Nat → Nat} {v x : Nat} : se_up rho v x v = x := if_pos rfl
theorem se_up_n {rho : Nat → Nat} {v x u : Nat} (h : u ≠ v) : se_up rho v x u = rho u := if_neg h
theorem se_up_e {rho : Nat → Nat} {v x : Nat} (h : rho v = x) : se_up rho v x = rho := by
  funext u
  by_cases e : u = v
  · rw [e, se_up_s, h]
  · rw [se_up_n e]
theorem se_up_ext {g : tm_G} {rho : Nat → Nat} {v x : Nat} (w : List Nat) (h : ¬ tm_vc v ∈ w) : se_v g (se_up rho v x) w = se_v g rho w := by
  apply se_v_ext
  intro c hc u hu
  apply se_up_n
  intro e
  apply h
  rw [← e, ← (tm_vn_ch hu).1]
  exact hc
theorem sd_gen {g : tm_G} {m m' : Nat → List Nat} {s0 v sv sg : Nat} {t : List Nat} (hv : tm_V g) (hv16 : v < 16) (ht : tm_P g [sv] t) (hx : tm_P g [sv] [tm_vc v]) (w1 : tm_P g [sg] (m s0)) (w2 : tm_P g [sg] (m (s0 + 1))) (hfr : ¬ fr_p m s0 v)
    (e0 : m' s0 = (tm_R g false (m s0) t [tm_vc v] 0).2) (e1 : m' (s0 + 1) = (tm_R g false (m (s0 + 1)) t [tm_vc v] 0).2) (e2 : m' (s0 + 2) = m (s0 + 2)) (e3 : m' (s0 + 3) = m (s0 + 3)) (h : sd_G g m' s0) : sd_G g m s0 := by
  intro rho hh
  have n0 : ¬ tm_vc v ∈ m s0 := fun z => hfr (Or.inl z)
  have n1 : ¬ tm_vc v ∈ m (s0 + 1) := fun z => hfr (Or.inr (Or.inl z))
  have n2 : ¬ tm_vc v ∈ m (s0 + 2) := fun z => hfr (Or.inr (Or.inr (Or.inl z)))
  have n3 : ¬ tm_vc v ∈ m (s0 + 3) := fun z => hfr (Or.inr (Or.inr (Or.inr z)))
  have k := h (se_up rho v (tm_at (se_v g rho t) 0)) (by rw [e2, e3, se_up_ext _ n2, se_up_ext _ n3]; exact hh)
  have hH : ∀ w : List Nat, ¬ tm_vc v ∈ w → (∀ c, c ∈ t → c ∈ w) → se_v g (se_up rho v (tm_at (se_v g rho t) 0)) [tm_vc v] = se_v g (se_up rho v (tm_at (se_v g rho t) 0)) t := by
    intro w hw hs
    rw [se_up_ext t (fun z => hw (hs _ z)), se_v_cons, se_v_nil, se_op_var hv _ (tm_vn_vc hv16), se_up_s]
    exact (se_v_one rho ht).symm
  rw [e0, e1, se_Rf hv ht hx w1 (hH _ n0), se_Rf hv ht hx w2 (hH _ n1), se_up_ext _ n0, se_up_ext _ n1] at k
  exact k
theorem sd_sub {g : tm_G} (hV : tm_V g) {v s : Nat} (hv : v < 16) {to : List Nat} (hto : tm_P g [s] to) (rho : Nat → Nat) (w : List Nat) : se_v g rho (tm_R g false w [tm_vc v] to 0).2 = se_v g (se_up rho v (tm_at (se_v g rho to) 0)) w := by
  rw [tm_R_one (tm_V_ar hV (tm_vn_vc hv)) w.length 0 (Nat.sub_le _ _), List.drop_zero]
  apply se_fm hV
  intro c _
  by_cases e : c = tm_vc v
  · refine Or.inr ⟨v, s, ?_, ?_, ?_⟩
    · rw [e]
      exact tm_vn_vc hv
    · rw [if_pos e]
      exact hto
    · rw [if_pos e, se_up_s]
      exact se_v_one rho hto
  · refine Or.inl ⟨if_neg e, fun u hu => (se_up_n (fun z => e ?_)).symm⟩
    rw [← z]
    exact (tm_vn_ch hu).1
theorem sd_indN {g : tm_G} {l r : List Nat} {v : Nat} (base : ∀ rho, se_v g (se_up rho v 0) l = se_v g (se_up rho v 0) r) (step : ∀ rho, se_v g rho l = se_v g rho r → se_v g (se_up rho v (rho v + 1)) l = se_v g (se_up rho v (rho v + 1)) r) (k : Nat) : ∀ rho, rho v = k → se_v g rho l = se_v g rho r := by
  induction k with
  | zero =>
    intro rho h
    have := base rho
    rw [se_up_e h] at this
    exact this
  | succ k ih =>
    intro rho h
    have h1 := step _ (ih (se_up rho v k) se_up_s)
    rw [se_up_s] at h1
    have e : se_up (se_up rho v k) v (k + 1) = rho := by
      funext u
      by_cases q : u = v
      · rw [q, se_up_s, h]
      · rw [se_up_n q, se_up_n q]
    rw [e] at h1
    exact h1
theorem sd_indL {g : tm_G} {l r : List Nat} {v a : Nat} (hne : a ≠ v) (hl : ¬ tm_vc a ∈ l) (hr : ¬ tm_vc a ∈ r) (base : ∀ rho, se_v g (se_up rho v 0) l = se_v g (se_up rho v 0) r) (step : ∀ rho, se_v g rho l = se_v g rho r → se_v g (se_up rho v (se_co (rho a) (rho v))) l = se_v g (se_up rho v (se_co (rho a) (rho v))) r) (d : Nat) : ∀ rho, rho v ≤ d → se_v g rho l = se_v g rho r := by
  induction d with
  | zero =>
    intro rho h
    have := base rho
    rw [se_up_e (show rho v = 0 by omega)] at this
    exact this
  | succ d ih =>
    intro rho h
    by_cases h0 : rho v = 0
    · have := base rho
      rw [se_up_e h0] at this
      exact this
    · obtain ⟨x, t, e⟩ := se_co_sur (rho v) (rho v) (Nat.le_refl _) (by omega)
      have hlt := se_co_lt x t
      have ev : se_up (se_up rho v t) a x v = t := by rw [se_up_n (fun z => hne z.symm), se_up_s]
      have h1 := step _ (ih (se_up (se_up rho v t) a x) (by rw [ev]; omega))
      rw [ev, se_up_s, e] at h1
      have key : ∀ w : List Nat, ¬ tm_vc a ∈ w → se_v g (se_up (se_up (se_up rho v t) a x) v (rho v)) w = se_v g rho w := by
        intro w hw
        apply se_v_ext
        intro c hc u hu
        by_cases q : u = v
        · rw [q, se_up_s]
        · rw [se_up_n q, se_up_n ?_, se_up_n q]
          intro z
          apply hw
          rw [← z, ← (tm_vn_ch hu).1]
          exact hc
      rw [key l hl, key r hr] at h1
      exact h1
theorem sd_ba {n : Nat} {A : Nat → List Nat} {Z : Nat → Nat} {rho : Nat → Nat} (v : Nat) : tm_at (se_v (tm_sg n A Z) rho (tm_ba v)) 0 = 0 := by
  unfold tm_ba
  split
  · rfl
  · rfl
theorem sd_toN {n : Nat} {A : Nat → List Nat} {Z : Nat → Nat} (hV : tm_V (tm_sg n A Z)) {rho : Nat → Nat} {v hh : Nat} (h : v < 8) : tm_at (se_v (tm_sg n A Z) rho (tm_to v hh)) 0 = rho v + 1 := by
  unfold tm_to
  rw [if_pos h, se_v_cons, se_v_cons, se_v_nil, se_op_var hV _ (tm_vn_vc (by omega)), se_o83]
  rfl
theorem sd_toL {n : Nat} {A : Nat → List Nat} {Z : Nat → Nat} (hV : tm_V (tm_sg n A Z)) {rho : Nat → Nat} {v hh : Nat} (h : ¬ v < 8) (hv : v < 16) (h8 : hh < 8) : tm_at (se_v (tm_sg n A Z) rho (tm_to v hh)) 0 = se_co (rho hh) (rho v) := by
  unfold tm_to
  rw [if_neg h, se_v_cons, se_v_cons, se_v_cons, se_v_nil, se_op_var hV _ (tm_vn_vc hv), se_op_var hV _ (tm_vn_vc (by omega)), se_o67]
  rfl
/-! induct -/
theorem ri_Pv {n : Nat} {A : Nat → List Nat} {Z : Nat → Nat} {v : Nat} (hv : v < 16) : tm_P (tm_sg n A Z) [if v < 8 then 0 else 1] [tm_vc v] := ⟨[], _, [], tm_sg_V (tm_vn_vc hv), rfl, rfl⟩
theorem ri_to {n : Nat} {A : Nat → List Nat} {Z : Nat → Nat} {v hh : Nat} (hv : v < 16) (hhh : 8 ≤ v → hh < 8) : tm_P (tm_sg n A Z) [if v < 8 then 0 else 1] (tm_to v hh) := by
  unfold tm_to
  by_cases h : v < 8
  · rw [if_pos h, if_pos h]
    have := ri_Pv (n := n) (A := A) (Z := Z) hv
    rw [if_pos h] at this
    exact ⟨[0], 0, [], rfl, rfl, this⟩
  · rw [if_neg h, if_neg h]
    have h1 := ri_Pv (n := n) (A := A) (Z := Z) hv
    have h8 := hhh (by omega)
    have h2 := ri_Pv (n := n) (A := A) (Z := Z) (v := hh) (by omega)
    rw [if_neg h] at h1
    rw [if_pos h8] at h2
    exact ⟨[0, 1], 1, [], rfl, rfl, tm_P_app h1 _ [0] h2⟩
theorem ri_ba {n : Nat} {A : Nat → List Nat} {Z : Nat → Nat} {v : Nat} : tm_P (tm_sg n A Z) [if v < 8 then 0 else 1] (tm_ba v) := by
  unfold tm_ba
  by_cases h : v < 8
  · rw [if_pos h, if_pos h]
    exact ⟨[], 0, [], rfl, rfl, rfl⟩
  · rw [if_neg h, if_neg h]
    exact ⟨[], 1, [], rfl, rfl, rfl⟩
theorem sd_ind {n : Nat} {A : Nat → List Nat} {Z : Nat → Nat} {m m' : Nat → List Nat} {s0 v hh : Nat} (hS : tm_SG n A Z) (hv : v < 16) (hfr : 8 ≤ v → hh < 8 ∧ ¬ fr_p m s0 hh)
    (e0 : m' s0 = (tm_R (tm_sg n A Z) false (m s0) [tm_vc v] (tm_to v hh) 0).2) (e1 : m' (s0 + 1) = (tm_R (tm_sg n A Z) false (m (s0 + 1)) [tm_vc v] (tm_to v hh) 0).2) (e2 : m' (s0 + 2) = m s0) (e3 : m' (s0 + 3) = m (s0 + 1)) (e4 : m' (s0 + 4) = (tm_R (tm_sg n A Z) false (m s0) [tm_vc v] (tm_ba v) 0).2) (e5 : m' (s0 + 5) = (tm_R (tm_sg n A Z) false (m (s0 + 1)) [tm_vc v] (tm_ba v) 0).2) (e6 : m' (s0 + 6) = []) (e7 : m' (s0 + 7) = [])
    (hs : sd_G (tm_sg n A Z) m' s0) (hb : sd_G (tm_sg n A Z) m' (s0 + 4)) : sd_G (tm_sg n A Z) m s0 := by
  have hV := (tm_sg_GS hS).1
  have hPt := ri_to (n := n) (A := A) (Z := Z) (hh := hh) hv (fun z => (hfr z).1)
  have hPb := ri_ba (n := n) (A := A) (Z := Z) (v := v)
  have e5' : m' (s0 + 4 + 1) = (tm_R (tm_sg n A Z) false (m (s0 + 1)) [tm_vc v] (tm_ba v) 0).2 := e5
  have e6' : m' (s0 + 4 + 2) = [] := e6
  have e7' : m' (s0 + 4 + 3) = [] := e7
  have base : ∀ rho, se_v (tm_sg n A Z) (se_up rho v 0) (m s0) = se_v (tm_sg n A Z) (se_up rho v 0) (m (s0 + 1)) := by
    intro rho
    have k := hb rho (by rw [e6', e7'])
    rw [e4, e5', sd_sub hV hv hPb, sd_sub hV hv hPb, sd_ba] at k
    exact k
  have step : ∀ rho, se_v (tm_sg n A Z) rho (m s0) = se_v (tm_sg n A Z) rho (m (s0 + 1)) → se_v (tm_sg n A Z) (se_up rho v (tm_at (se_v (tm_sg n A Z) rho (tm_to v hh)) 0)) (m s0) = se_v (tm_sg n A Z) (se_up rho v (tm_at (se_v (tm_sg n A Z) rho (tm_to v hh)) 0)) (m (s0 + 1)) := by
    intro rho h
    have k := hs rho (by rw [e2, e3]; exact h)
    rw [e0, e1, sd_sub hV hv hPt, sd_sub hV hv hPt] at k
    exact k
  intro rho _
  by_cases h8 : v < 8
  · refine sd_indN base (fun rh h => ?_) (rho v) rho rfl
    have k := step rh h
    rw [sd_toN hV h8] at k
    exact k
  · obtain ⟨a8, afr⟩ := hfr (by omega)
    refine sd_indL (a := hh) (by omega) (fun z => afr (Or.inl z)) (fun z => afr (Or.inr (Or.inl z))) base (fun rh h => ?_) (rho v) rho (Nat.le_refl _)
    have k := step rh h
    rw [sd_toL hV h8 hv a8] at k
    exact k
