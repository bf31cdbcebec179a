/-! 30: the reference: evaluate, feed -/
def ev_Y (val : Nat → Nat) (e2 : Nat → Nat → Nat) (vl ee : Nat → Int32) : Prop := ∀ v, v < 16 → vl v = nI (val v) ∧ val v ≤ 7 ∧ (8 ≤ v → val v ≤ 4 ∧ ∀ i, i < val v → e2 v i ≤ 3 ∧ ee ((v - 8) * 4 + i) = nI (e2 v i))
theorem tm_el_len {e : Nat → Nat} (k : Nat) : (∀ i, i < k → e i ≤ 3) → (tm_el e k).length ≤ 5 * k := by
  induction k with
  | zero => exact fun _ => Nat.le_refl _
  | succ k ih =>
    intro h
    have h1 := ih (fun i hi => h i (by omega))
    have h2 := h k (by omega)
    show (tm_el e k ++ (67 :: tm_nu (e k))).length ≤ _
    unfold tm_nu
    rw [List.length_append, List.length_cons, List.length_append, List.length_replicate, List.length_singleton]
    omega
theorem tm_vl_len {val : Nat → Nat} {e2 : Nat → Nat → Nat} {vl ee : Nat → Int32} (h : ev_Y val e2 vl ee) {v : Nat} (hv : v < 16) : (tm_vl val e2 v).length ≤ 30 := by
  obtain ⟨_, h7, h8⟩ := h v hv
  unfold tm_vl
  by_cases hv8 : v < 8
  · rw [if_pos hv8]
    unfold tm_nu
    rw [List.length_append, List.length_replicate, List.length_singleton]
    omega
  · rw [if_neg hv8]
    obtain ⟨h4, he⟩ := h8 (by omega)
    have := tm_el_len (e := e2 v) (val v) (fun i hi => (he i hi).1)
    rw [List.length_append, List.length_singleton]
    omega
theorem tm_gk_16 (val : Nat → Nat) (el : Nat → Nat → Nat) (w : List Nat) : ∀ d k, k + d = 16 → (tm_gk val el k w).length ≤ (tm_gk val el 16 w).length := by
  intro d
  induction d with
  | zero =>
    intro k h
    have : k = 16 := by omega
    rw [this]
    exact Nat.le_refl _
  | succ d ih =>
    intro k h
    exact Nat.le_trans (tm_gk_le val el (by omega) w) (ih (k + 1) (by omega))
section YK
variable {yn yq yg ya : Int32} {T L K bo bs be fa fr fe hr ft hyA vl ee wb : Nat → Int32} {m : Nat → List Nat} {n ng q : Nat} {A : Nat → List Nat} {Z : Nat → Nat} {R : Nat → List Nat} {val : Nat → Nat} {e2 : Nat → Nat → Nat}
set_option maxHeartbeats 200000 in
theorem yl_v16 {post : SY → Prop} {v : Nat} (hev : ev_Y val e2 vl ee) (hv : v < 8) (h : ∀ T' L', cm_M 64 89 T' L' (cm_set m 86 ((tm_vl val e2 v).take 64)) → post (yn, yq, yg, ya, T', L', K, bo, bs, be, fa, fr, fe, hr, ft, hyA, vl, ee, wb)) :
    ∀ f i T L, val v < f + i → i ≤ val v → cm_M 64 89 T L (cm_set m 86 ((List.replicate i 83).take 64)) → wY_valText_16 post (nI v) f (nI i) yn yq yg ya T L K bo bs be fa fr fe hr ft hyA vl ee wb := by
  obtain ⟨hvl, h7, _⟩ := hev v (by omega)
  intro f
  induction f with
  | zero => intro i T L a b; omega
  | succ f ih =>
    intro i T L a b hM
    rw [wY_valText_16]
    dsimp only
    rw [nI_clamp (n := v) (by omega), hvl]
    refine ⟨vp_in_nI (by omega) (by omega), pk_le (val v) i (fun hge => ?_) (fun hlt => ?_)⟩
    · have e : i = val v := by omega
      subst e
      unfold wY_valText_46
      refine yp_put (s := 86) (c := 90) hM (by omega) (by omega) (fun T1 L1 hM1 => ?_)
      rw [cm_set_s, cm_set_set, cm_tt] at hM1
      dsimp only
      apply h
      unfold tm_vl
      rw [if_pos hv]
      exact hM1
    · refine br_f (nI_ge (b := 8) (by omega) (by decide)) ?_
      refine yp_put (s := 86) (c := 83) hM (by omega) (by omega) (fun T1 L1 hM1 => ?_)
      rw [cm_set_s, cm_set_set, cm_tt, ← List.replicate_succ'] at hM1
      exact nm_r (nI_1 i) (ih (i + 1) T1 L1 (by omega) (by omega) hM1)
set_option maxHeartbeats 200000 in
theorem yl_v97 {post : SY → Prop} {J : Int32 → Int32 → Int32 → Int32 → Int32 → (Nat → Int32) → (Nat → Int32) → (Nat → Int32) → (Nat → Int32) → (Nat → Int32) → (Nat → Int32) → (Nat → Int32) → (Nat → Int32) → (Nat → Int32) → (Nat → Int32) → (Nat → Int32) → (Nat → Int32) → (Nat → Int32) → (Nat → Int32) → (Nat → Int32) → Prop} {x1 x2 : Int32} {k : Nat} {w : List Nat} (hk : k ≤ 3) (h : ∀ T' L', cm_M 64 89 T' L' (cm_set m 86 ((w ++ tm_nu k).take 64)) → J (x2 + 1) yn yq yg ya T' L' K bo bs be fa fr fe hr ft hyA vl ee wb) :
    ∀ f i T L, k < f + i → i ≤ k → cm_M 64 89 T L (cm_set m 86 ((w ++ List.replicate i 83).take 64)) → wY_valText_97 post J x1 x2 (nI k) f (nI i) yn yq yg ya T L K bo bs be fa fr fe hr ft hyA vl ee wb := by
  intro f
  induction f with
  | zero => intro i T L a b; omega
  | succ f ih =>
    intro i T L a b hM
    rw [wY_valText_97]
    dsimp only
    refine pk_le k i (fun hge => ?_) (fun hlt => ?_)
    · have e : i = k := by omega
      subst e
      unfold wY_valText_123
      refine yp_put (s := 86) (c := 90) hM (by omega) (by omega) (fun T1 L1 hM1 => ?_)
      rw [cm_set_s, cm_set_set, cm_tt, List.append_assoc] at hM1
      exact nm_e (h T1 L1 hM1)
    · refine br_f (nI_ge (b := 4) (by omega) (by decide)) ?_
      refine yp_put (s := 86) (c := 83) hM (by omega) (by omega) (fun T1 L1 hM1 => ?_)
      rw [cm_set_s, cm_set_set, cm_tt, List.append_assoc, ← List.replicate_succ'] at hM1
      exact nm_r (nI_1 i) (ih (i + 1) T1 L1 (by omega) (by omega) hM1)
set_option maxHeartbeats 200000 in
theorem yl_v57 {post : SY → Prop} {v : Nat} (hev : ev_Y val e2 vl ee) (hv : v < 16) (hv8 : 8 ≤ v) (h : ∀ T' L', cm_M 64 89 T' L' (cm_set m 86 ((tm_vl val e2 v).take 64)) → post (yn, yq, yg, ya, T', L', K, bo, bs, be, fa, fr, fe, hr, ft, hyA, vl, ee, wb)) :
    ∀ f i T L, val v < f + i → i ≤ val v → cm_M 64 89 T L (cm_set m 86 ((tm_el (e2 v) i).take 64)) → wY_valText_57 post (nI v) f (nI i) yn yq yg ya T L K bo bs be fa fr fe hr ft hyA vl ee wb := by
  obtain ⟨hvl, h7, h8⟩ := hev v hv
  obtain ⟨h4, he⟩ := h8 hv8
  intro f
  induction f with
  | zero => intro i T L a b; omega
  | succ f ih =>
    intro i T L a b hM
    rw [wY_valText_57]
    dsimp only
    rw [nI_clamp (n := v) (by omega), hvl]
    refine ⟨vp_in_nI hv (by omega), pk_le (val v) i (fun hge => ?_) (fun hlt => ?_)⟩
    · have e : i = val v := by omega
      subst e
      unfold wY_valText_137
      refine yp_put (s := 86) (c := 78) hM (by omega) (by omega) (fun T1 L1 hM1 => ?_)
      rw [cm_set_s, cm_set_set, cm_tt] at hM1
      dsimp only
      apply h
      unfold tm_vl
      rw [if_neg (by omega)]
      exact hM1
    · refine br_f (nI_ge (b := 4) (by omega) (by decide)) ?_
      refine yp_put (s := 86) (c := 67) hM (by omega) (by omega) (fun T1 L1 hM1 => ?_)
      rw [cm_set_s, cm_set_set, cm_tt] at hM1
      obtain ⟨e3, e4⟩ := he i hlt
      dsimp only
      rw [show nI v - 8 = nI (v - 8) from pk_sub (b := 8) hv8, show nI (v - 8) * 4 = nI ((v - 8) * 4) from pk_mul _ 4, nI_add, nI_clamp (n := (v - 8) * 4 + i) (by omega), e4]
      refine ⟨vp_in_nI (by omega) (by omega), nm_e ⟨e2 v i + 1, yl_v97 (m := m) (w := tm_el (e2 v) i ++ [67]) e3 (fun T2 L2 hM2 => ?_) _ 0 T1 L1 (by omega) (Nat.zero_le _) ?_⟩⟩
      · rw [List.append_assoc] at hM2
        rw [nI_1]
        exact ih (i + 1) T2 L2 (by omega) (by omega) hM2
      · rw [List.replicate_zero, List.append_nil]
        exact hM1
set_option maxHeartbeats 200000 in
theorem yp_vt {post : SY → Prop} {v : Nat} (hM : cm_M 64 89 T L m) (hev : ev_Y val e2 vl ee) (hv : v < 16) (h : ∀ T' L', cm_M 64 89 T' L' (cm_set m 86 (tm_vl val e2 v)) → post (yn, yq, yg, ya, T', L', K, bo, bs, be, fa, fr, fe, hr, ft, hyA, vl, ee, wb)) : wpY_valText post (yn, yq, yg, ya, T, L, K, bo, bs, be, fa, fr, fe, hr, ft, hyA, vl, ee, wb) (nI v) := by
  unfold wpY_valText
  dsimp only
  have hM1 := cm_nil hM (s := 86) (by omega)
  have hlen := tm_vl_len hev hv
  have h' : ∀ T' L', cm_M 64 89 T' L' (cm_set m 86 ((tm_vl val e2 v).take 64)) → post (yn, yq, yg, ya, T', L', K, bo, bs, be, fa, fr, fe, hr, ft, hyA, vl, ee, wb) := by
    rw [cm_tl (by omega)]
    exact h
  refine nm_e (pk_le 8 v (fun h8 => ?_) (fun h8 => ?_))
  · exact ⟨val v + 1, yl_v57 hev hv h8 h' _ 0 T _ (by omega) (Nat.zero_le _) hM1⟩
  · exact ⟨val v + 1, yl_v16 hev h8 h' _ 0 T _ (by omega) (Nat.zero_le _) hM1⟩
set_option maxHeartbeats 400000 in
theorem yl_es {post : Int32 → SY → Prop} {d sv : Nat} {w : List Nat} (hS : tm_SG n A Z) (hg : sg_Y n A Z fa fr fe) (hRU : tm_RU (tm_sg n A Z) R) (hH : yr_H R hr) (hev : ev_Y val e2 vl ee) (hRm : ∀ i, i < 32 → m (1 + i) = R i) (hd : d < 84) (hd2 : 82 ≤ d) (hP : tm_P (tm_sg n A Z) [sv] w) (hF : tm_FC R w)
    (h1 : ∀ w', tm_N (tm_sg n A Z) R (tm_gk val e2 16 w) = some w' → ∀ T' L' bo' bs' be' m', cm_M 64 89 T' L' m' → m' d = w' → (∀ u, u ≠ d → u < 84 → u ≠ 81 → m' u = m u) → post 1 (nI n, yq, yg, ya, T', L', K, bo', bs', be', fa, fr, fe, hr, ft, hyA, vl, ee, wb))
    (h0 : tm_N (tm_sg n A Z) R (tm_gk val e2 16 w) = none → ∀ T' L' bo' bs' be' m', cm_M 64 89 T' L' m' → (∀ u, u ≠ d → u < 84 → u ≠ 81 → m' u = m u) → post 0 (nI n, yq, yg, ya, T', L', K, bo', bs', be', fa, fr, fe, hr, ft, hyA, vl, ee, wb)) :
    ∀ f v T L bo bs be m', 16 < f + v → v ≤ 16 → cm_M 64 89 T L m' → m' d = tm_gk val e2 v w → (tm_gk val e2 v w).length ≤ 48 → (∀ u, u ≠ d → u < 84 → u ≠ 81 → m' u = m u) → wY_evalSide_8 post (nI d) f (nI v) (nI n) yq yg ya T L K bo bs be fa fr fe hr ft hyA vl ee wb := by
  intro f
  induction f with
  | zero => intro v T L bo bs be m' a b; omega
  | succ f ih =>
    intro v T L bo bs be m' ha hb hM hmd hl hfr
    rw [wY_evalSide_8]
    dsimp only
    refine pk_le 16 v (fun hge => ?_) (fun hlt => ?_)
    · have e : v = 16 := by omega
      subst e
      refine yp_norm (s := d) (S := [sv]) hS hg hRU hH hM (fun i hi => by rw [hfr _ (by omega) (by omega) (by omega)]; exact hRm i hi) hd hd2 (by rw [hmd]; exact hl) (by rw [hmd]; exact tm_gk_P _ _ hP) ?_ ?_ ?_
      · rw [hmd]
        intro c hc hf
        rcases tm_gk_mem w hc with h | h
        · exact hF c h hf
        · omega
      · rw [hmd]
        intro w' hw T1 L1 bo1 bs1 be1 m1 hM1 e1 f1
        exact ⟨by decide, h1 w' hw T1 L1 bo1 bs1 be1 m1 hM1 e1 (fun u a b c => by rw [f1 u a c, hfr u a b c])⟩
      · rw [hmd]
        intro hw T1 L1 bo1 bs1 be1 m1 hM1 f1
        exact ⟨by decide, h0 hw T1 L1 bo1 bs1 be1 m1 hM1 (fun u a b c => by rw [f1 u a c, hfr u a b c])⟩
    · refine yp_vt hM hev hlt (fun T1 L1 hM1 => ?_)
      have hM2 := cm_nil hM1 (s := 88) (by omega)
      refine nm_e ?_
      refine yp_vch hlt ?_
      dsimp only
      refine yp_put (s := 88) hM2 (by omega) (tm_vc_lt hlt) (fun T3 L3 hM3 => ?_)
      rw [cm_set_s, cm_set_set, List.nil_append, cm_tl (K := 64) (by rw [List.length_singleton]; omega)] at hM3
      generalize hm3 : cm_set (cm_set m' 86 (tm_vl val e2 v)) 88 [tm_vc v] = m3 at hM3
      have f3 : ∀ s, s < 86 → m3 s = m' s := fun s a => by rw [← hm3, cm_set_n (by omega), cm_set_n (by omega)]
      have k86 : m3 86 = tm_vl val e2 v := by rw [← hm3, cm_set_n (by omega), cm_set_s]
      have k88 : m3 88 = [tm_vc v] := by rw [← hm3, cm_set_s]
      have k3d : m3 d = tm_gk val e2 v w := by rw [f3 d (by omega), hmd]
      dsimp only
      refine yp_repl (t := 84) (f := 88) (p := 86) (pat := false) (S := [sv]) hS hg hM3 (by omega) (by omega) (by omega) (by omega) (by omega) (by omega) (by omega) (by rw [k3d]; exact tm_gk_P _ _ hP) (by rw [k88]; exact yi_Pv hlt) (Or.inr ⟨rfl, by decide⟩) (by rw [k3d]; exact hl) (fun T4 L4 bo4 bs4 be4 hM4 => ?_)
      have hone := tm_R_one (g := tm_sg n A Z) (w := tm_gk val e2 v w) (to := tm_vl val e2 v) (v := tm_vc v) (tm_V_ar (tm_sg_GS hS).1 (tm_vn_vc hlt)) _ 0 (Nat.le_refl _)
      rw [List.drop_zero, tm_gk_s val e2 hlt] at hone
      rw [k88, k86, k3d, hone] at hM4
      generalize hm4 : cm_set m3 84 ((tm_gk val e2 (v + 1) w).take 64) = m4 at hM4
      have f4 : ∀ s, s < 84 → m4 s = m' s := fun s a => by rw [← hm4, cm_set_n (by omega), f3 s (by omega)]
      have d84 : m4 84 = (tm_gk val e2 (v + 1) w).take 64 := by rw [← hm4, cm_set_s]
      have n84 := cm_len hM4 (s := 84) (by omega)
      rw [d84, List.length_take] at n84
      dsimp only
      rw [n84]
      refine pk_le (min 64 (tm_gk val e2 (v + 1) w).length) 48 (fun z => ?_) (fun z => ?_)
      · rw [cm_tl (by omega)] at d84
        refine yp_copy (s := 84) (d := d) hM4 (by omega) (by omega) (by omega) (fun T5 L5 hM5 => ?_)
        rw [d84] at hM5
        dsimp only
        refine nm_r (nI_1 v) (ih (v + 1) T5 L5 bo4 bs4 be4 _ (by omega) (by omega) hM5 cm_set_s (by omega) (fun u a b c => ?_))
        rw [cm_set_n a, f4 u b, hfr u a b c]
      · refine h0 ?_ T4 L4 bo4 bs4 be4 m4 hM4 (fun u a b c => by rw [f4 u b, hfr u a b c])
        have := tm_gk_16 val e2 w (16 - (v + 1)) (v + 1) (by omega)
        exact if_neg (by omega)
set_option maxHeartbeats 400000 in
theorem yp_es {post : Int32 → SY → Prop} {s d sv : Nat} (hS : tm_SG n A Z) (hg : sg_Y n A Z fa fr fe) (hRU : tm_RU (tm_sg n A Z) R) (hH : yr_H R hr) (hM : cm_M 64 89 T L m) (hev : ev_Y val e2 vl ee) (hRm : ∀ i, i < 32 → m (1 + i) = R i) (hs : s < 81) (hd : d < 84) (hd2 : 82 ≤ d) (hP : tm_P (tm_sg n A Z) [sv] (m s)) (hF : tm_FC R (m s)) (hl : (m s).length ≤ 48)
    (h1 : ∀ w', tm_N (tm_sg n A Z) R (tm_gk val e2 16 (m s)) = some w' → ∀ T' L' bo' bs' be' m', cm_M 64 89 T' L' m' → m' d = w' → (∀ u, u ≠ d → u < 84 → u ≠ 81 → m' u = m u) → post 1 (nI n, yq, yg, ya, T', L', K, bo', bs', be', fa, fr, fe, hr, ft, hyA, vl, ee, wb))
    (h0 : tm_N (tm_sg n A Z) R (tm_gk val e2 16 (m s)) = none → ∀ T' L' bo' bs' be' m', cm_M 64 89 T' L' m' → (∀ u, u ≠ d → u < 84 → u ≠ 81 → m' u = m u) → post 0 (nI n, yq, yg, ya, T', L', K, bo', bs', be', fa, fr, fe, hr, ft, hyA, vl, ee, wb)) : wpY_evalSide post (nI n, yq, yg, ya, T, L, K, bo, bs, be, fa, fr, fe, hr, ft, hyA, vl, ee, wb) (nI s) (nI d) := by
  unfold wpY_evalSide
  dsimp only
  refine yp_copy (s := s) (d := d) hM (by omega) (by omega) (by omega) (fun T1 L1 hM1 => ?_)
  dsimp only
  refine ⟨17, yl_es (m := m) hS hg hRU hH hev hRm hd hd2 hP hF h1 h0 17 0 T1 L1 bo bs be _ (by omega) (by omega) hM1 ?_ ?_ (fun u a b c => cm_set_n a)⟩
  · rw [cm_set_s, tm_gk_0]
  · rw [tm_gk_0]
    exact hl
set_option maxHeartbeats 400000 in
theorem yp_eval {post : Int32 → SY → Prop} {k sv : Nat} (hS : tm_SG n A Z) (hg : sg_Y n A Z fa fr fe) (hRU : tm_RU (tm_sg n A Z) R) (hH : yr_H R hr) (hM : cm_M 64 89 T L m) (hev : ev_Y val e2 vl ee) (hRm : ∀ i, i < 32 → m (1 + i) = R i) (hk : k < q) (hq : q ≤ 8) (p1 : tm_P (tm_sg n A Z) [sv] (m (33 + 2 * k))) (p2 : tm_P (tm_sg n A Z) [sv] (m (33 + 2 * k + 1))) (c1 : tm_FC R (m (33 + 2 * k))) (c2 : tm_FC R (m (33 + 2 * k + 1))) (l1 : (m (33 + 2 * k)).length ≤ 48) (l2 : (m (33 + 2 * k + 1)).length ≤ 48)
    (hU : tm_N (tm_sg n A Z) R (tm_gk val e2 16 (m (33 + 2 * k))) = none ∨ tm_N (tm_sg n A Z) R (tm_gk val e2 16 (m (33 + 2 * k + 1))) = none → ∀ T' L' bo' bs' be' m', cm_M 64 89 T' L' m' → (∀ s, s < 81 → m' s = m s) → post 3 (nI n, nI q, yg, ya, T', L', K, bo', bs', be', fa, fr, fe, hr, ft, hyA, vl, ee, wb))
    (hO : ∀ u v, tm_N (tm_sg n A Z) R (tm_gk val e2 16 (m (33 + 2 * k))) = some u → tm_N (tm_sg n A Z) R (tm_gk val e2 16 (m (33 + 2 * k + 1))) = some v → ∀ T' L' bo' bs' be' m', cm_M 64 89 T' L' m' → (∀ s, s < 81 → m' s = m s) → (u = v → post 1 (nI n, nI q, yg, ya, T', L', K, bo', bs', be', fa, fr, fe, hr, ft, hyA, vl, ee, wb)) ∧ (u ≠ v → post 2 (nI n, nI q, yg, ya, T', L', K, bo', bs', be', fa, fr, fe, hr, ft, hyA, vl, ee, wb))) : wpY_evaluate post (nI n, nI q, yg, ya, T, L, K, bo, bs, be, fa, fr, fe, hr, ft, hyA, vl, ee, wb) (nI k) := by
  unfold wpY_evaluate
  dsimp only
  refine br_f (nI_pos (by omega)) (br_t (nI_lt hk (by omega)) ?_)
  rw [show (2 : Int32) * nI k = nI (2 * k) from pk_mul 2 k, show (33 : Int32) + nI (2 * k) = nI (33 + 2 * k) from nI_add 33 _, nI_1 (33 + 2 * k)]
  refine yp_es (d := 82) hS hg hRU hH hM hev hRm (by omega) (by omega) (by omega) p1 c1 l1 (fun u hu T1 L1 bo1 bs1 be1 m1 hM1 e1 f1 => ?_) (fun hu T1 L1 bo1 bs1 be1 m1 hM1 f1 => ?_)
  · refine br_f (by decide) ?_
    have a1 := f1 (33 + 2 * k + 1) (by omega) (by omega) (by omega)
    dsimp only
    refine yp_es (d := 83) (sv := sv) hS hg hRU hH hM1 hev (fun i hi => by rw [f1 _ (by omega) (by omega) (by omega)]; exact hRm i hi) (by omega) (by omega) (by omega) (by rw [a1]; exact p2) (by rw [a1]; exact c2) (by rw [a1]; exact l2) ?_ ?_
    · rw [a1]
      intro v hv T2 L2 bo2 bs2 be2 m2 hM2 e2 f2
      refine br_f (by decide) ?_
      have b1 : m2 82 = u := by rw [f2 82 (by omega) (by omega) (by omega), e1]
      obtain ⟨o1, o2⟩ := hO u v hu hv T2 L2 bo2 bs2 be2 m2 hM2 (fun s a => by rw [f2 s (by omega) (by omega) (by omega), f1 s (by omega) (by omega) (by omega)])
      dsimp only
      refine yp_eqs (a := 82) (b := 83) hM2 (by omega) (by omega) ?_ ?_
      · rw [b1, e2]
        exact fun e => br_f (by decide) (o1 e)
      · rw [b1, e2]
        exact fun e => br_t rfl (o2 e)
    · rw [a1]
      intro hv T2 L2 bo2 bs2 be2 m2 hM2 f2
      exact br_t rfl (hU (Or.inr hv) T2 L2 bo2 bs2 be2 m2 hM2 (fun s a => by rw [f2 s (by omega) (by omega) (by omega), f1 s (by omega) (by omega) (by omega)]))
  · exact br_t rfl (hU (Or.inl hu) T1 L1 bo1 bs1 be1 m1 hM1 (fun s a => f1 s (by omega) (by omega) (by omega)))
end YK
