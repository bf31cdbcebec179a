/-! 29: the reference: induct -/
section YJ
variable {yn yq yg ya : Int32} {T L K bo bs be fa fr fe hr ft hyA vl ee wb : Nat → Int32} {m : Nat → List Nat} {n ng q : Nat} {A : Nat → List Nat} {Z : Nat → Nat} {R : Nat → List Nat}
theorem yi_Pv {v : Nat} (hv : v < 16) : tm_P (tm_sg n A Z) [if v < 8 then 0 else 1] [tm_vc v] := ⟨[], _, [], tm_sg_V (tm_vn_vc hv), rfl, rfl⟩
set_option maxHeartbeats 400000 in
theorem yl_171 {post : Int32 → SY → Prop} {s0 v c s1 s2 : Nat} {to : List Nat} (hS : tm_SG n A Z) (hg : sg_Y n A Z fa fr fe) (hM : cm_M 64 89 T L m) (hg0 : 1 ≤ ng) (hg8 : ng < 8) (hs0 : s0 = 49 + 4 * (ng - 1)) (hv : v < 16) (hc : c < 256) (h86 : m 86 = to) (h87 : m 87 = []) (w1 : tm_P (tm_sg n A Z) [s1] (m s0)) (w2 : tm_P (tm_sg n A Z) [s2] (m (s0 + 1))) (wl1 : (m s0).length ≤ 48) (wl2 : (m (s0 + 1)).length ≤ 48)
    (hL : 48 < (tm_R (tm_sg n A Z) false (m s0) [tm_vc v] to 0).2.length ∨ 48 < (tm_R (tm_sg n A Z) false (m (s0 + 1)) [tm_vc v] to 0).2.length → ∀ T' L' bo' bs' be' m', cm_M 64 89 T' L' m' → (∀ s, s < 81 → m' s = m s) → post (-7) (nI n, yq, nI ng, ya, T', L', K, bo', bs', be', fa, fr, fe, hr, ft, hyA, vl, ee, wb))
    (hO : (tm_R (tm_sg n A Z) false (m s0) [tm_vc v] to 0).2.length ≤ 48 → (tm_R (tm_sg n A Z) false (m (s0 + 1)) [tm_vc v] to 0).2.length ≤ 48 → ∀ T' L' bo' bs' be' m', cm_M 64 89 T' L' m' → m' s0 = (tm_R (tm_sg n A Z) false (m s0) [tm_vc v] to 0).2 → m' (s0 + 1) = (tm_R (tm_sg n A Z) false (m (s0 + 1)) [tm_vc v] to 0).2 → m' (s0 + 2) = m s0 → m' (s0 + 3) = m (s0 + 1) → m' (s0 + 4) = (tm_R (tm_sg n A Z) false (m s0) [tm_vc v] [c] 0).2 → m' (s0 + 5) = (tm_R (tm_sg n A Z) false (m (s0 + 1)) [tm_vc v] [c] 0).2 →
      (∀ s, s < 81 → s < s0 ∨ s0 + 7 < s → m' s = m s) → post (nI (ng + 1)) (nI n, yq, nI (ng + 1), ya, T', L', K, bo', bs', be', fa, fr, fe, hr, ft, upd (upd hyA (ng - 1) 1) ng 0, vl, ee, wb)) : wY_induct_171 post (nI s0) (nI (tm_vc v)) (nI c) (nI 87) (nI n) yq (nI ng) ya T L K bo bs be fa fr fe hr ft hyA vl ee wb := by
  unfold wY_induct_171
  have hb : s0 + 7 < 81 := by omega
  have hb0 : 49 ≤ s0 := by omega
  clear hs0
  have hpx : ((false : Bool) = true ∧ (1 : Int32) = 0) ∨ ((false : Bool) = false ∧ ¬ (1 : Int32) = 0) := Or.inr ⟨rfl, by decide⟩
  have hPv := yi_Pv (n := n) (A := A) (Z := Z) hv
  refine yp_put (s := 87) hM (by omega) hc (fun T1 L1 hM1 => ?_)
  rw [h87, List.nil_append, cm_tl (K := 64) (by rw [List.length_singleton]; omega)] at hM1
  have hM2 := cm_nil hM1 (s := 88) (by omega)
  refine nm_e ?_
  dsimp only
  refine yp_put (s := 88) hM2 (by omega) (tm_vc_lt hv) (fun T3 L3 hM3 => ?_)
  rw [cm_set_s, cm_set_set, List.nil_append, cm_tl (K := 64) (by rw [List.length_singleton]; omega)] at hM3
  generalize hm3 : cm_set (cm_set m 87 [c]) 88 [tm_vc v] = m3 at hM3
  have f3 : ∀ s, s < 87 → m3 s = m s := fun s a => by rw [← hm3, cm_set_n (by omega), cm_set_n (by omega)]
  have k87 : m3 87 = [c] := by rw [← hm3, cm_set_n (by omega), cm_set_s]
  have k88 : m3 88 = [tm_vc v] := by rw [← hm3, cm_set_s]
  have k86 : m3 86 = to := by rw [f3 86 (by omega), h86]
  have l1 := tm_R_len1 (g := tm_sg n A Z) (w := m s0) (fr := [tm_vc v]) (to := [c]) rfl _ 0 (Nat.le_refl _)
  have l2 := tm_R_len1 (g := tm_sg n A Z) (w := m (s0 + 1)) (fr := [tm_vc v]) (to := [c]) rfl _ 0 (Nat.le_refl _)
  dsimp only
  refine yp_repl (t := 82) (f := 88) (p := 86) (pat := false) hS hg hM3 (by omega) (by omega) (by omega) (by omega) (by omega) (by omega) (by omega) (by rw [f3 _ (by omega)]; exact w1) (by rw [k88]; exact hPv) hpx (by rw [f3 _ (by omega)]; exact wl1) (fun T4 L4 bo4 bs4 be4 hM4 => ?_)
  rw [k88, k86, f3 s0 (by omega)] at hM4
  generalize hla : (tm_R (tm_sg n A Z) false (m s0) [tm_vc v] to 0).2 = la at *
  generalize hm4 : cm_set m3 82 (la.take 64) = m4 at hM4
  have f4 : ∀ s, s ≠ 82 → m4 s = m3 s := fun s a => by rw [← hm4, cm_set_n a]
  have d82 : m4 82 = la.take 64 := by rw [← hm4, cm_set_s]
  rw [nI_1 s0]
  dsimp only
  refine yp_repl (t := 83) (f := 88) (p := 86) (pat := false) hS hg hM4 (by omega) (by omega) (by omega) (by omega) (by omega) (by omega) (by omega) (by rw [f4 _ (by omega), f3 _ (by omega)]; exact w2) (by rw [f4 _ (by omega), k88]; exact hPv) hpx (by rw [f4 _ (by omega), f3 _ (by omega)]; exact wl2) (fun T5 L5 bo5 bs5 be5 hM5 => ?_)
  rw [f4 88 (by omega), f4 86 (by omega), k88, k86, f4 (s0 + 1) (by omega), f3 (s0 + 1) (by omega)] at hM5
  generalize hra : (tm_R (tm_sg n A Z) false (m (s0 + 1)) [tm_vc v] to 0).2 = ra at *
  generalize hm5 : cm_set m4 83 (ra.take 64) = m5 at hM5
  have f5 : ∀ s, s ≠ 83 → m5 s = m4 s := fun s a => by rw [← hm5, cm_set_n a]
  have d83 : m5 83 = ra.take 64 := by rw [← hm5, cm_set_s]
  dsimp only
  refine yp_repl (t := 84) (f := 88) (p := 87) (pat := false) hS hg hM5 (by omega) (by omega) (by omega) (by omega) (by omega) (by omega) (by omega) (by rw [f5 _ (by omega), f4 _ (by omega), f3 _ (by omega)]; exact w1) (by rw [f5 _ (by omega), f4 _ (by omega), k88]; exact hPv) hpx (by rw [f5 _ (by omega), f4 _ (by omega), f3 _ (by omega)]; exact wl1) (fun T6 L6 bo6 bs6 be6 hM6 => ?_)
  rw [f5 88 (by omega), f5 87 (by omega), f4 88 (by omega), f4 87 (by omega), k88, k87, f5 s0 (by omega), f4 s0 (by omega), f3 s0 (by omega), cm_tl (by omega)] at hM6
  generalize hlb : (tm_R (tm_sg n A Z) false (m s0) [tm_vc v] [c] 0).2 = lb at *
  generalize hm6 : cm_set m5 84 lb = m6 at hM6
  have f6 : ∀ s, s ≠ 84 → m6 s = m5 s := fun s a => by rw [← hm6, cm_set_n a]
  have d84 : m6 84 = lb := by rw [← hm6, cm_set_s]
  dsimp only
  refine yp_repl (t := 85) (f := 88) (p := 87) (pat := false) hS hg hM6 (by omega) (by omega) (by omega) (by omega) (by omega) (by omega) (by omega) (by rw [f6 _ (by omega), f5 _ (by omega), f4 _ (by omega), f3 _ (by omega)]; exact w2) (by rw [f6 _ (by omega), f5 _ (by omega), f4 _ (by omega), k88]; exact hPv) hpx (by rw [f6 _ (by omega), f5 _ (by omega), f4 _ (by omega), f3 _ (by omega)]; exact wl2) (fun T7 L7 bo7 bs7 be7 hM7 => ?_)
  rw [f6 88 (by omega), f6 87 (by omega), f5 88 (by omega), f5 87 (by omega), f4 88 (by omega), f4 87 (by omega), k88, k87, f6 (s0 + 1) (by omega), f5 (s0 + 1) (by omega), f4 (s0 + 1) (by omega), f3 (s0 + 1) (by omega), cm_tl (by omega)] at hM7
  generalize hrb : (tm_R (tm_sg n A Z) false (m (s0 + 1)) [tm_vc v] [c] 0).2 = rb at *
  generalize hm7 : cm_set m6 85 rb = m7 at hM7
  have f7 : ∀ s, s < 81 → m7 s = m s := fun s a => by rw [← hm7, cm_set_n (by omega), f6 _ (by omega), f5 _ (by omega), f4 _ (by omega), f3 _ (by omega)]
  have e82 : m7 82 = la.take 64 := by rw [← hm7, cm_set_n (by omega), f6 _ (by omega), f5 _ (by omega), d82]
  have e83 : m7 83 = ra.take 64 := by rw [← hm7, cm_set_n (by omega), f6 _ (by omega), d83]
  have e84 : m7 84 = lb := by rw [← hm7, cm_set_n (by omega), d84]
  have e85 : m7 85 = rb := by rw [← hm7, cm_set_s]
  clear hm3 hm4 hm5 hm6 hm7 f3 f4 f5 f6 k86 k87 k88 d82 d83 d84 hM1 hM2 hM3 hM4 hM5 hM6
  have n82 := cm_len hM7 (s := 82) (by omega)
  have n83 := cm_len hM7 (s := 83) (by omega)
  have n84 := cm_len hM7 (s := 84) (by omega)
  have n85 := cm_len hM7 (s := 85) (by omega)
  rw [e82, List.length_take] at n82
  rw [e83, List.length_take] at n83
  rw [e84] at n84
  rw [e85] at n85
  dsimp only
  rw [n82, n83, n84, n85]
  refine pk_lt 48 (min 64 la.length) (fun y => hL (Or.inl (by omega)) T7 L7 bo7 bs7 be7 m7 hM7 f7) (fun y1 => pk_lt 48 (min 64 ra.length) (fun y => hL (Or.inr (by omega)) T7 L7 bo7 bs7 be7 m7 hM7 f7) (fun y2 => ?_))
  refine br_f (by rw [show (48 : Int32) = nI 48 from rfl, nI_ltI (by omega) (by omega)]; omega) (br_t (by rw [show (48 : Int32) = nI 48 from rfl, nI_leI (by omega) (by omega)]; omega) ?_)
  rw [cm_tl (by omega)] at e82 e83
  rw [show nI s0 + 2 = nI (s0 + 2) from nI_add _ 2, show nI s0 + 3 = nI (s0 + 3) from nI_add _ 3, show nI s0 + 4 = nI (s0 + 4) from nI_add _ 4, show nI s0 + 5 = nI (s0 + 5) from nI_add _ 5, show nI s0 + 6 = nI (s0 + 6) from nI_add _ 6, show nI s0 + 7 = nI (s0 + 7) from nI_add _ 7]
  refine yp_copy (s := s0) (d := s0 + 2) hM7 (by omega) (by omega) (by omega) (fun T8 L8 hM8 => ?_)
  dsimp only
  refine yp_copy (s := s0 + 1) (d := s0 + 3) hM8 (by omega) (by omega) (by omega) (fun T9 L9 hM9 => ?_)
  dsimp only
  rw [xi_m1 hg0, nI_clamp (n := ng - 1) (by omega), yi_b1, yi_b0]
  refine ⟨vp_in_nI (by omega) (by omega), nm_e ?_⟩
  refine yp_copy (s := 82) (d := s0) hM9 (by omega) (by omega) (by omega) (fun Ta La hMa => ?_)
  dsimp only
  refine yp_copy (s := 83) (d := s0 + 1) hMa (by omega) (by omega) (by omega) (fun Tb Lb hMb => ?_)
  dsimp only
  refine yp_copy (s := 84) (d := s0 + 4) hMb (by omega) (by omega) (by omega) (fun Tc Lc hMc => ?_)
  dsimp only
  refine yp_copy (s := 85) (d := s0 + 5) hMc (by omega) (by omega) (by omega) (fun Td Ld hMd => ?_)
  dsimp only
  rw [nI_clamp (n := s0 + 6) (by omega), nI_clamp (n := s0 + 7) (by omega), nI_clamp (n := ng) (by omega), nI_1 ng]
  refine ⟨vp_in_nI (by omega) (by omega), nm_e ⟨vp_in_nI (by omega) (by omega), nm_e ⟨vp_in_nI (by omega) (by omega), nm_e (nm_e ?_)⟩⟩⟩
  have hMe := cm_nil (cm_nil hMd (s := s0 + 6) (by omega)) (s := s0 + 7) (by omega)
  simp (disch := omega) only [cm_set_s, cm_set_n, e82, e83, e84, e85, f7] at hMe
  refine hO (by omega) (by omega) Td _ bo7 bs7 be7 _ hMe ?_ ?_ ?_ ?_ ?_ ?_ ?_
  · simp (disch := omega) only [cm_set_s, cm_set_n]
  · simp (disch := omega) only [cm_set_s, cm_set_n]
  · simp (disch := omega) only [cm_set_s, cm_set_n]
  · simp (disch := omega) only [cm_set_s, cm_set_n]
  · simp (disch := omega) only [cm_set_s, cm_set_n]
  · simp (disch := omega) only [cm_set_s, cm_set_n]
  · intro s h1 h2
    simp (disch := omega) only [cm_set_s, cm_set_n, f7]
set_option maxHeartbeats 400000 in
theorem yp_induct {post : Int32 → SY → Prop} {k v s1 s2 : Nat} {hyv : Bool} (hk : k < 8) (hv : v < 16) (hS : tm_SG n A Z) (hg : sg_Y n A Z fa fr fe) (hM : cm_M 64 89 T L m) (hg0 : 1 ≤ ng) (hg8 : ng ≤ 8) (w1 : tm_P (tm_sg n A Z) [s1] (m (49 + 4 * (ng - 1)))) (w2 : tm_P (tm_sg n A Z) [s2] (m (49 + 4 * (ng - 1) + 1))) (wl1 : (m (49 + 4 * (ng - 1))).length ≤ 48) (wl2 : (m (49 + 4 * (ng - 1) + 1)).length ≤ 48) (hh : hyA (ng - 1) = if hyv = true then 1 else 0)
    (hA : ¬ (tm_vc v ∈ m (49 + 4 * (ng - 1)) ∨ tm_vc v ∈ m (49 + 4 * (ng - 1) + 1)) → post (-6) (nI n, yq, nI ng, nI k, T, L, K, bo, bs, be, fa, fr, fe, hr, ft, hyA, vl, ee, wb))
    (hU : tm_vc v ∈ m (49 + 4 * (ng - 1)) ∨ tm_vc v ∈ m (49 + 4 * (ng - 1) + 1) → ng = 8 ∨ (8 ≤ v ∧ ∀ u, 8 * 0 ≤ u → u < 8 * 0 + 8 → yf_p m hyv (49 + 4 * (ng - 1)) u) → ∀ T' L' m', cm_M 64 89 T' L' m' → (∀ s, s < 81 → m' s = m s) → post (-4) (nI n, yq, nI ng, nI k, T', L', K, bo, bs, be, fa, fr, fe, hr, ft, hyA, vl, ee, wb))
    (hL : ∀ hh, tm_vc v ∈ m (49 + 4 * (ng - 1)) ∨ tm_vc v ∈ m (49 + 4 * (ng - 1) + 1) → ng < 8 → (8 ≤ v → fr_l (yf_p m hyv (49 + 4 * (ng - 1))) (8 * 0) hh) → 48 < (tm_R (tm_sg n A Z) false (m (49 + 4 * (ng - 1))) [tm_vc v] (tm_to v hh) 0).2.length ∨ 48 < (tm_R (tm_sg n A Z) false (m (49 + 4 * (ng - 1) + 1)) [tm_vc v] (tm_to v hh) 0).2.length → ∀ T' L' bo' bs' be' m', cm_M 64 89 T' L' m' → (∀ s, s < 81 → m' s = m s) → post (-7) (nI n, yq, nI ng, nI k, T', L', K, bo', bs', be', fa, fr, fe, hr, ft, hyA, vl, ee, wb))
    (hO : ∀ hh, tm_vc v ∈ m (49 + 4 * (ng - 1)) ∨ tm_vc v ∈ m (49 + 4 * (ng - 1) + 1) → ng < 8 → (8 ≤ v → fr_l (yf_p m hyv (49 + 4 * (ng - 1))) (8 * 0) hh) → (tm_R (tm_sg n A Z) false (m (49 + 4 * (ng - 1))) [tm_vc v] (tm_to v hh) 0).2.length ≤ 48 → (tm_R (tm_sg n A Z) false (m (49 + 4 * (ng - 1) + 1)) [tm_vc v] (tm_to v hh) 0).2.length ≤ 48 → ∀ T' L' bo' bs' be' m', cm_M 64 89 T' L' m' → m' (49 + 4 * (ng - 1)) = (tm_R (tm_sg n A Z) false (m (49 + 4 * (ng - 1))) [tm_vc v] (tm_to v hh) 0).2 → m' (49 + 4 * (ng - 1) + 1) = (tm_R (tm_sg n A Z) false (m (49 + 4 * (ng - 1) + 1)) [tm_vc v] (tm_to v hh) 0).2 →
      m' (49 + 4 * (ng - 1) + 2) = m (49 + 4 * (ng - 1)) → m' (49 + 4 * (ng - 1) + 3) = m (49 + 4 * (ng - 1) + 1) → m' (49 + 4 * (ng - 1) + 4) = (tm_R (tm_sg n A Z) false (m (49 + 4 * (ng - 1))) [tm_vc v] (tm_ba v) 0).2 → m' (49 + 4 * (ng - 1) + 5) = (tm_R (tm_sg n A Z) false (m (49 + 4 * (ng - 1) + 1)) [tm_vc v] (tm_ba v) 0).2 →
      (∀ s, s < 81 → s < 49 + 4 * (ng - 1) ∨ 49 + 4 * (ng - 1) + 7 < s → m' s = m s) → post (nI (ng + 1)) (nI n, yq, nI (ng + 1), nI k, T', L', K, bo', bs', be', fa, fr, fe, hr, ft, upd (upd hyA (ng - 1) 1) ng 0, vl, ee, wb)) : wpY_induct post (nI n, yq, nI ng, nI k, T, L, K, bo, bs, be, fa, fr, fe, hr, ft, hyA, vl, ee, wb) (nI v) := by
  unfold wpY_induct
  dsimp only
  have hcv := tm_vc_lt hv
  refine br_t (nI_pos' (by omega)) (br_f (nI_pos (by omega)) (br_t (nI_le (b := 15) (by omega) (by decide)) ?_))
  refine yp_top hg0 ?_
  refine yp_vch hv ?_
  have h57 : tm_vc v ∈ m (49 + 4 * (ng - 1)) ∨ tm_vc v ∈ m (49 + 4 * (ng - 1) + 1) → wY_induct_57 post (nI v) (nI (49 + 4 * (ng - 1))) (nI (tm_vc v)) (nI n) yq (nI ng) (nI k) T L K bo bs be fa fr fe hr ft hyA vl ee wb := by
    intro hin
    unfold wY_induct_57
    refine pk_lt ng 8 (fun h8 => ?_) (fun h8 => hU hin (Or.inl (by omega)) T L m hM (fun _ _ => rfl))
    have hM1 := cm_nil hM (s := 86) (by omega)
    have h147 : ∀ hd T2 L2, (8 ≤ v → fr_l (yf_p m hyv (49 + 4 * (ng - 1))) (8 * 0) hd) → cm_M 64 89 T2 L2 (cm_set m 86 (tm_to v hd)) → wY_induct_147 post (nI v) (nI (49 + 4 * (ng - 1))) (nI (tm_vc v)) (nI n) yq (nI ng) (nI k) T2 L2 K bo bs be fa fr fe hr ft hyA vl ee wb := by
      intro hd T2 L2 hfr hM2
      unfold wY_induct_147
      have hM3 := cm_nil hM2 (s := 87) (by omega)
      generalize hm3 : cm_set (cm_set m 86 (tm_to v hd)) 87 [] = m3 at hM3
      have f3 : ∀ s, s < 86 → m3 s = m s := fun s a => by rw [← hm3, cm_set_n (by omega), cm_set_n (by omega)]
      have k86 : m3 86 = tm_to v hd := by rw [← hm3, cm_set_n (by omega), cm_set_s]
      have k87 : m3 87 = [] := by rw [← hm3, cm_set_s]
      have a0 := f3 (49 + 4 * (ng - 1)) (by omega)
      have a1 := f3 (49 + 4 * (ng - 1) + 1) (by omega)
      have hfin : ∀ c, c < 256 → tm_ba v = [c] → wY_induct_171 post (nI (49 + 4 * (ng - 1))) (nI (tm_vc v)) (nI c) (nI 87) (nI n) yq (nI ng) (nI k) T2 (upd L2 87 0) K bo bs be fa fr fe hr ft hyA vl ee wb := by
        intro c hc hb
        refine yl_171 (s1 := s1) (s2 := s2) (to := tm_to v hd) hS hg hM3 hg0 h8 rfl hv hc k86 k87 (by rw [a0]; exact w1) (by rw [a1]; exact w2) (by rw [a0]; exact wl1) (by rw [a1]; exact wl2) ?_ ?_
        · rw [a0, a1]
          intro z T4 L4 bo4 bs4 be4 m4 hM4 f4
          exact hL hd hin h8 hfr z T4 L4 bo4 bs4 be4 m4 hM4 (fun s a => by rw [f4 s a, f3 s (by omega)])
        · rw [a0, a1, ← hb]
          intro z1 z2 T4 L4 bo4 bs4 be4 m4 hM4 q1 q2 q3 q4 q5 q6 f4
          exact hO hd hin h8 hfr z1 z2 T4 L4 bo4 bs4 be4 m4 hM4 q1 q2 q3 q4 q5 q6 (fun s a b => by rw [f4 s a b, f3 s (by omega)])
      refine nm_e (pk_le 8 v (fun v8 => hfin 78 (by omega) (by unfold tm_ba; rw [if_neg (by omega)])) (fun v8 => hfin 90 (by omega) (by unfold tm_ba; rw [if_pos v8])))
    refine nm_e (pk_le 8 v (fun v8 => ?_) (fun v8 => ?_))
    · have hyf : ∀ u, yf_p (cm_set m 86 []) hyv (49 + 4 * (ng - 1)) u ↔ yf_p m hyv (49 + 4 * (ng - 1)) u := by
        intro u
        unfold yf_p
        rw [cm_set_n (by omega), cm_set_n (by omega), cm_set_n (by omega), cm_set_n (by omega)]
      refine yp_fresh (sv := 0) (hyv := hyv) hM1 hg0 hg8 (by omega) hh (fun hd hfr => ?_) (fun hno => br_f (by decide) (hU hin (Or.inr ⟨v8, fun u a b => (hyf u).mp (hno u a b)⟩) T _ _ hM1 (fun s a => cm_set_n (by omega))))
      have hd16 : hd < 16 := by
        have := hfr.2.1
        omega
      have hfr2 : fr_l (yf_p m hyv (49 + 4 * (ng - 1))) (8 * 0) hd := ⟨hfr.1, hfr.2.1, fun y => hfr.2.2.1 ((hyf hd).mpr y), fun u a b => (hyf u).mp (hfr.2.2.2 u a b)⟩
      refine br_t (nI_pos' (by omega)) ?_
      refine yp_vch hd16 ?_
      refine yp_put (s := 86) (c := 67) hM1 (by omega) (by omega) (fun T3 L3 hM3 => ?_)
      rw [cm_set_s, cm_set_set] at hM3
      dsimp only
      refine yp_put (s := 86) hM3 (by omega) (tm_vc_lt hd16) (fun T4 L4 hM4 => ?_)
      rw [cm_set_s, cm_set_set, cm_tt] at hM4
      dsimp only
      refine yp_put (s := 86) hM4 (by omega) hcv (fun T5 L5 hM5 => ?_)
      rw [cm_set_s, cm_set_set, cm_tt] at hM5
      dsimp only
      refine h147 hd T5 L5 (fun _ => hfr2) ?_
      unfold tm_to
      rw [if_neg (by omega)]
      exact hM5
    · refine yp_put (s := 86) (c := 83) hM1 (by omega) (by omega) (fun T3 L3 hM3 => ?_)
      rw [cm_set_s, cm_set_set] at hM3
      dsimp only
      refine yp_put (s := 86) hM3 (by omega) hcv (fun T5 L5 hM5 => ?_)
      rw [cm_set_s, cm_set_set, cm_tt] at hM5
      dsimp only
      refine h147 0 T5 L5 (fun z => by omega) ?_
      unfold tm_to
      rw [if_pos v8]
      exact hM5
  refine yp_occ hM (by omega) (by omega) (fun z => br_f (by decide) (h57 (Or.inl z))) (fun z => br_t rfl ?_)
  rw [nI_1 (49 + 4 * (ng - 1))]
  refine yp_occ hM (by omega) (by omega) (fun z2 => br_f (by decide) (h57 (Or.inr z2))) (fun z2 => br_t rfl (hA (fun y => ?_)))
  rcases y with y | y
  · exact z y
  · exact z2 y
end YJ
