/-! 23: the reference: NORMALIZE, fresh variables, CLOSE-CHECK -/
section YD
variable {yn yq yg ya : Int32} {T L K bo bs be fa fr fe hr ft hyA vl ee wb : Nat → Int32} {m : Nat → List Nat} {n ng : Nat} {A : Nat → List Nat} {Z : Nat → Nat} {R : Nat → List Nat}
theorem yi_fn {S w : List Nat} {c : Nat} (hS : tm_SG n A Z) (hP : tm_P (tm_sg n A Z) S w) (hc : c ∈ w) (hf : tm_fn c) : c < 70 + n := by
  obtain ⟨a, s, h⟩ := tm_P_sym hP hc
  rcases tm_sg_c n A Z c hS.1 with ⟨e, q⟩ | ⟨e, q⟩ | ⟨e, q⟩ | ⟨e, q⟩ | ⟨e, q⟩ | ⟨e, q⟩ | ⟨f, hf2, e, q⟩ | ⟨q, _⟩
  · omega
  · omega
  · omega
  · omega
  · omega
  · omega
  · omega
  · rw [h] at q
    cases q
theorem yl_st {w : List Nat} {a e : Nat} (y : List Nat) (h : e ≤ w.length) : ((((([] : List Nat) ++ (w.drop 0).take (a - 0)).take 64 ++ y).take 64) ++ (w.drop e).take (w.length - e)).take 64 = (w.take a ++ (y ++ w.drop e)).take 64 := by
  rw [List.drop_zero, Nat.sub_zero, List.nil_append, cm_tt, List.append_assoc, cm_tt, cm_tl (x := w.drop e) (by rw [List.length_drop]; omega)]
theorem yp_rw {post : Int32 → SY → Prop} (hS : tm_SG n A Z) (hg : sg_Y n A Z fa fr fe) (hRU : tm_RU (tm_sg n A Z) R) (hH : yr_H R hr) (hM : cm_M 64 89 T L m) (hRm : ∀ i, i < 32 → m (1 + i) = R i) {s i : Nat} {S : List Nat} (hs : s < 84) (hs2 : 82 ≤ s) (hP : tm_P (tm_sg n A Z) S (m s)) (hF : tm_FC R (m s)) (hl : (m s).length ≤ 48) (hrd : tm_rd (m s) i)
    (h1 : (tm_st (tm_sg n A Z) R (m s) i).length ≤ 48 → ∀ T' L' bo' bs' be' m', cm_M 64 89 T' L' m' → m' s = tm_st (tm_sg n A Z) R (m s) i → (∀ u, u ≠ s → u ≠ 81 → m' u = m u) → post 1 (nI n, yq, yg, ya, T', L', K, bo', bs', be', fa, fr, fe, hr, ft, hyA, vl, ee, wb))
    (h0 : 48 < (tm_st (tm_sg n A Z) R (m s) i).length → ∀ T' L' bo' bs' be' m', cm_M 64 89 T' L' m' → (∀ u, u ≠ s → u ≠ 81 → m' u = m u) → post 0 (nI n, yq, yg, ya, T', L', K, bo', bs', be', fa, fr, fe, hr, ft, hyA, vl, ee, wb)) : wpY_rewriteAt post (nI n, yq, yg, ya, T, L, K, bo, bs, be, fa, fr, fe, hr, ft, hyA, vl, ee, wb) (nI s) (nI i) := by
  unfold wpY_rewriteAt
  dsimp only
  have hs89 : s < 89 := by omega
  have hG := tm_sg_GS hS
  obtain ⟨r, hmm, hne, hst2, hP', hF'⟩ := tm_st_ok hG hRU hP hF hrd
  have hil2 := tm_rd_lt hrd
  have hfn : tm_fn (tm_at (m s) i) := hrd.1
  obtain ⟨k, hk⟩ : ∃ k, tm_kd (tm_at (m s) (i + 1)) = some k := Option.ne_none_iff_exists'.mp hrd.2
  have hkc := tm_kd_c hk
  have hk2 : k < 2 := by omega
  have hri : tm_ri (m s) i = 4 * (tm_at (m s) i - 70) + 2 * k := by
    unfold tm_ri
    rw [hk]
    rfl
  have hdec := yi_fn hS hP (tm_at_mem (w := m s) (i := i) (by omega)) hfn
  have b1 := cm_b hM hs89 i
  have b2 := cm_b hM hs89 (i + 1)
  have hn8 := hS.1
  have hRW := hRU (tm_at (m s) i - 70) k (by omega) hk2 (by rw [← hri]; exact hne)
  obtain ⟨K0, vs, sv, _, _, _, _, hPl, _, _⟩ := hRW
  rw [← hri] at hPl
  have hmain : wY_rewriteAt_43 post (nI s) (nI i) (nI (tm_at (m s) i - 70)) (nI k) (nI n) yq yg ya T L K bo bs be fa fr fe hr ft hyA vl ee wb := by
    unfold wY_rewriteAt_43
    rw [show (2 : Int32) * nI (tm_at (m s) i - 70) = nI (2 * (tm_at (m s) i - 70)) from pk_mul 2 _, nI_add, nI_clamp (n := 2 * (tm_at (m s) i - 70) + k) (by omega), hH _ k (by omega) hk2, ← hri, if_neg hne]
    refine br_f (nI_pos (by omega)) ⟨vp_in_nI (by omega) (by omega), br_f (by decide) ?_⟩
    refine nm_r (e' := nI (1 + tm_ri (m s) i)) ?_ ?_
    · rw [show (2 : Int32) * nI (2 * (tm_at (m s) i - 70) + k) = nI (2 * (2 * (tm_at (m s) i - 70) + k)) from pk_mul 2 _, hri]
      rw [show (1 : Int32) + nI (2 * (2 * (tm_at (m s) i - 70) + k)) = nI (1 + 2 * (2 * (tm_at (m s) i - 70) + k)) from nI_add 1 _]
      exact congrArg nI (by omega)
    · have hru : m (1 + tm_ri (m s) i) = R (tm_ri (m s) i) := hRm _ (by omega)
      have hru2 : m (1 + tm_ri (m s) i + 1) = R (tm_ri (m s) i + 1) := by
        rw [Nat.add_assoc]
        exact hRm _ (by omega)
      refine yp_match (pat := true) hS hg hM hs89 (by omega) hP (Or.inl ⟨rfl, rfl⟩) (by omega) ?_ ?_
      · rw [hru]
        intro r' bo' bs' be' hm' hB'
        rw [hmm] at hm'
        obtain rfl := Option.some.inj hm'
        have hpos := tm_mt_pos0 hmm
        have hend : r.1 = tm_e (tm_sg n A Z) (m s) i := tm_mt_end hG.1 _ _ _ _ _ hPl hmm
        have e1 := tm_e_gt (tm_sg n A Z) (w := m s) (q := i) (by omega)
        have e2 := tm_e_le (tm_sg n A Z) (w := m s) (q := i) (by omega)
        rw [hend]
        refine br_t (nI_pos' (by omega)) (nm_e ?_)
        have hM1 := cm_nil hM (s := 81) (by omega)
        have q1 : ∀ {u : List Nat}, cm_set m 81 u s = m s := cm_set_n (by omega)
        have q2 : ∀ {u : List Nat}, cm_set m 81 u (1 + tm_ri (m s) i + 1) = m (1 + tm_ri (m s) i + 1) := cm_set_n (by omega)
        refine yp_cr (s := s) (d := 81) (a := 0) hM1 (by omega) hs89 (by omega) (by rw [q1]; omega) (Nat.zero_le _) (fun T2 L2 hM2 => ?_)
        rw [cm_set_s, cm_set_set, q1] at hM2
        rw [show nI (1 + tm_ri (m s) i) + 1 = nI (1 + tm_ri (m s) i + 1) from nI_1 _]
        refine yp_inst (s := s) (d := 81) (pat := true) hM2 (by omega) hs89 (by omega) (by omega) (by omega) (by rw [q1]; exact hB') (by rw [q1]; exact hpos) (Or.inl ⟨rfl, rfl⟩) (fun T3 L3 hM3 => ?_)
        rw [cm_set_s, cm_set_set, q1, q2, hru2] at hM3
        have hl3 := cm_len hM3 hs89
        rw [q1] at hl3
        refine ⟨vp_in_nI hs89 (by omega), ?_⟩
        dsimp only
        rw [nI_clamp (n := s) (by omega), hl3]
        refine yp_cr (s := s) (d := 81) hM3 (by omega) hs89 (by omega) (by rw [q1]; exact Nat.le_refl _) e2 (fun T4 L4 hM4 => ?_)
        rw [cm_set_s, cm_set_set, q1, yl_st _ e2, ← hst2] at hM4
        have hl4 := cm_len hM4 (s := 81) (by omega)
        rw [cm_set_s, List.length_take] at hl4
        dsimp only
        rw [hl4]
        refine pk_le (min 64 (tm_st (tm_sg n A Z) R (m s) i).length) 48 (fun z => ?_) (fun z => ?_)
        · have hlen : (tm_st (tm_sg n A Z) R (m s) i).length ≤ 48 := by omega
          rw [cm_tl (by omega)] at hM4
          refine yp_copy (s := 81) (d := s) hM4 hs89 (by omega) (by omega) (fun T5 L5 hM5 => ?_)
          rw [cm_set_s] at hM5
          refine h1 hlen T5 L5 bo' bs' be' _ hM5 cm_set_s (fun u u1 u2 => ?_)
          rw [cm_set_n u1, cm_set_n u2]
        · exact h0 (by omega) T4 L4 bo' bs' be' _ hM4 (fun u u1 u2 => cm_set_n u2)
      · rw [hru, hmm]
        intro _ _ _ z
        cases z
  refine yp_c hM hs89 (by omega) ?_
  refine yp_fun hn8 (by omega) (fun f hf e => ?_) (fun hno => absurd ⟨hfn.1, hdec⟩ hno)
  have ef : f = tm_at (m s) i - 70 := by omega
  subst ef
  rw [nI_1]
  refine yp_c hM hs89 (by omega) ?_
  unfold wY_rewriteAt_38
  refine pk_eq (tm_at (m s) (i + 1)) 90 (fun z => ?_) (fun z1 => pk_eq (tm_at (m s) (i + 1)) 78 (fun z => ?_) (fun z2 => ?_))
  · have : k = 0 := by omega
    subst this
    exact hmain
  · have : k = 0 := by omega
    subst this
    exact hmain
  · have : k = 1 := by omega
    subst this
    exact hmain
theorem yl_21 {post : Int32 → SY → Prop} {J : Int32 → Int32 → Int32 → Int32 → Int32 → (Nat → Int32) → (Nat → Int32) → (Nat → Int32) → (Nat → Int32) → (Nat → Int32) → (Nat → Int32) → (Nat → Int32) → (Nat → Int32) → (Nat → Int32) → (Nat → Int32) → (Nat → Int32) → (Nat → Int32) → (Nat → Int32) → (Nat → Int32) → (Nat → Int32) → Prop} {x2 : Int32} (hS : tm_SG n A Z) (hM : cm_M 64 89 T L m) {s : Nat} {S : List Nat} (hs : s < 89) (hP : tm_P (tm_sg n A Z) S (m s)) :
    ∀ f j, j + 1 < f → j ≤ (m s).length → (∀ i, tm_rx (m s) j = some i → wY_norm_96 post J (nI s) x2 (nI i) (nI n) yq yg ya T L K bo bs be fa fr fe hr ft hyA vl ee wb) → (tm_rx (m s) j = none → wY_norm_96 post J (nI s) x2 (-1) (nI n) yq yg ya T L K bo bs be fa fr fe hr ft hyA vl ee wb) → wY_norm_21 post J (nI s) x2 (nI n) yq yg ya T L K bo bs be fa fr fe hr ft hyA vl ee wb f (-1) (nI j - 1) := by
  have hle := cm_le hM hs
  intro f
  induction f with
  | zero => intro j a; omega
  | succ f ih =>
    intro j a b h1 h0
    rw [wY_norm_21]
    dsimp only
    by_cases hz : j = 0
    · subst hz
      exact br_t (by decide) (h0 rfl)
    · obtain ⟨i, rfl⟩ : ∃ i, j = i + 1 := ⟨j - 1, by omega⟩
      rw [xi_m1']
      rw [tm_rx] at h1 h0
      have b1 := cm_b hM hs i
      have b2 := cm_b hM hs (i + 1)
      have hn8 := hS.1
      have hnext : ¬ tm_rd (m s) i → wY_norm_21 post J (nI s) x2 (nI n) yq yg ya T L K bo bs be fa fr fe hr ft hyA vl ee wb f (-1) (nI i + (-1)) := by
        intro hno
        rw [if_neg hno] at h1 h0
        rw [← Int32.sub_eq_add_neg]
        exact ih i (by omega) (by omega) h1 h0
      have hfound : tm_rd (m s) i → wY_norm_21 post J (nI s) x2 (nI n) yq yg ya T L K bo bs be fa fr fe hr ft hyA vl ee wb f (nI i) (nI i + (-1)) := by
        intro hr2
        rw [if_pos hr2] at h1
        have h9 := h1 i rfl
        obtain ⟨f', rfl⟩ : ∃ f', f = f' + 1 := ⟨f - 1, by omega⟩
        rw [wY_norm_21]
        dsimp only
        exact br_c (fun _ => h9) (fun _ => br_t (nI_pos' (by omega)) h9)
      refine br_f (nI_pos (by omega)) (br_f (by decide) ?_)
      refine yp_c hM hs (by omega) ?_
      rw [nI_1]
      refine yp_c hM hs (by omega) ?_
      refine yp_fun hn8 (by omega) (fun f2 hf2 e => ?_) (fun hno => br_t (by decide) (nm_e (hnext (fun z => hno ⟨z.1.1, yi_fn hS hP (tm_at_mem (by omega)) z.1⟩))))
      have hfn : tm_fn (tm_at (m s) i) := by omega
      refine br_f (nI_pos (by omega)) ?_
      have kk : ∀ k, tm_kd (tm_at (m s) (i + 1)) = some k → tm_rd (m s) i := fun k z => ⟨hfn, by rw [z]; exact Option.some_ne_none k⟩
      refine pk_eq (tm_at (m s) (i + 1)) 90 (fun z => nm_e (hfound (kk 0 (by rw [z]; rfl)))) (fun z1 => pk_eq (tm_at (m s) (i + 1)) 83 (fun z => nm_e (hfound (kk 1 (by rw [z]; rfl)))) (fun z2 => pk_eq (tm_at (m s) (i + 1)) 78 (fun z => nm_e (hfound (kk 0 (by rw [z]; rfl)))) (fun z3 => pk_eq (tm_at (m s) (i + 1)) 67 (fun z => nm_e (hfound (kk 1 (by rw [z]; rfl)))) (fun z4 => nm_e (hnext (fun z => z.2 ?_))))))
      unfold tm_kd
      rw [if_neg (by omega), if_neg (by omega)]
theorem yl_norm {post : Int32 → SY → Prop} (hS : tm_SG n A Z) (hg : sg_Y n A Z fa fr fe) (hRU : tm_RU (tm_sg n A Z) R) (hH : yr_H R hr) {s : Nat} {S : List Nat} {o : Option (List Nat)} (hRm : ∀ i, i < 32 → m (1 + i) = R i) (hs : s < 84) (hs2 : 82 ≤ s)
    (h1 : ∀ w', o = some w' → ∀ T' L' bo' bs' be' m', cm_M 64 89 T' L' m' → m' s = w' → (∀ u, u ≠ s → u ≠ 81 → m' u = m u) → post 1 (nI n, yq, yg, ya, T', L', K, bo', bs', be', fa, fr, fe, hr, ft, hyA, vl, ee, wb))
    (h0 : o = none → ∀ T' L' bo' bs' be' m', cm_M 64 89 T' L' m' → (∀ u, u ≠ s → u ≠ 81 → m' u = m u) → post 0 (nI n, yq, yg, ya, T', L', K, bo', bs', be', fa, fr, fe, hr, ft, hyA, vl, ee, wb)) :
    ∀ f st T L bo bs be m', 128 < f + st → st ≤ 128 → cm_M 64 89 T L m' → (∀ u, u ≠ s → u ≠ 81 → m' u = m u) → (m' s).length ≤ 48 → tm_nz (tm_sg n A Z) R (128 - st) (m' s) = o → tm_P (tm_sg n A Z) S (m' s) → tm_FC R (m' s) → wY_norm_2 post (nI s) f (nI st) (nI n) yq yg ya T L K bo bs be fa fr fe hr ft hyA vl ee wb := by
  have hs89 : s < 89 := by omega
  intro f
  induction f with
  | zero => intro st T L bo bs be m' a b; omega
  | succ f ih =>
    intro st T L bo bs be m' ha hb hM hfr hl hnz hP hF
    rw [wY_norm_2]
    dsimp only
    refine br_f (nI_nlt (b := 128) (a := 128) (Nat.le_refl _) (by decide) |> fun _ => by rw [show (128 : Int32) = nI 128 from rfl, nI_ltI (by omega) (by omega)]; omega) ?_
    rw [nI_clamp (n := s) (by omega), cm_len hM hs89]
    refine ⟨vp_in_nI hs89 (by omega), nm_e ⟨(m' s).length + 2, ?_⟩⟩
    refine yl_21 hS hM hs89 hP _ (m' s).length (by omega) (Nat.le_refl _) (fun i hi => ?_) (fun hi => ?_)
    · unfold wY_norm_96
      obtain ⟨hil, hrd⟩ := tm_rx_lt _ _ hi
      obtain ⟨r, _, _, _, hP', hF'⟩ := tm_st_ok (tm_sg_GS hS) hRU hP hF hrd
      refine br_t (nI_pos' (by omega)) (pk_eq st 128 (fun e => ?_) (fun e => ?_))
      · subst e
        rw [Nat.sub_self, tm_nz_0 hi] at hnz
        exact h0 hnz.symm T L bo bs be m' hM hfr
      · rw [show 128 - st = (128 - (st + 1)) + 1 by omega, tm_nz_s hi] at hnz
        refine yp_rw hS hg hRU hH hM (fun j hj => by rw [hfr _ (by omega) (by omega)]; exact hRm j hj) hs hs2 hP hF hl hrd (fun hlen T1 L1 bo1 bs1 be1 m1 hM1 e1 f1 => ?_) (fun hlen T1 L1 bo1 bs1 be1 m1 hM1 f1 => ?_)
        · rw [if_pos hlen] at hnz
          refine br_f (by decide) (nm_r (nI_1 st) (ih (st + 1) T1 L1 bo1 bs1 be1 m1 (by omega) (by omega) hM1 (fun u u1 u2 => by rw [f1 u u1 u2, hfr u u1 u2]) ?_ ?_ ?_ ?_))
          · rw [e1]; exact hlen
          · rw [e1]; exact hnz
          · rw [e1]; exact hP'
          · rw [e1]; exact hF'
        · rw [if_neg (by omega)] at hnz
          exact br_t rfl (h0 hnz.symm T1 L1 bo1 bs1 be1 m1 hM1 (fun u u1 u2 => by rw [f1 u u1 u2, hfr u u1 u2]))
    · unfold wY_norm_96
      rw [tm_nz_no hi] at hnz
      exact br_f (by decide) (h1 _ hnz.symm T L bo bs be m' hM rfl hfr)
theorem yp_norm {post : Int32 → SY → Prop} (hS : tm_SG n A Z) (hg : sg_Y n A Z fa fr fe) (hRU : tm_RU (tm_sg n A Z) R) (hH : yr_H R hr) (hM : cm_M 64 89 T L m) {s : Nat} {S : List Nat} (hRm : ∀ i, i < 32 → m (1 + i) = R i) (hs : s < 84) (hs2 : 82 ≤ s) (hl : (m s).length ≤ 48) (hP : tm_P (tm_sg n A Z) S (m s)) (hF : tm_FC R (m s))
    (h1 : ∀ w', tm_N (tm_sg n A Z) R (m s) = some w' → ∀ T' L' bo' bs' be' m', cm_M 64 89 T' L' m' → m' s = w' → (∀ u, u ≠ s → u ≠ 81 → m' u = m u) → post 1 (nI n, yq, yg, ya, T', L', K, bo', bs', be', fa, fr, fe, hr, ft, hyA, vl, ee, wb))
    (h0 : tm_N (tm_sg n A Z) R (m s) = none → ∀ T' L' bo' bs' be' m', cm_M 64 89 T' L' m' → (∀ u, u ≠ s → u ≠ 81 → m' u = m u) → post 0 (nI n, yq, yg, ya, T', L', K, bo', bs', be', fa, fr, fe, hr, ft, hyA, vl, ee, wb)) : wpY_norm post (nI n, yq, yg, ya, T, L, K, bo, bs, be, fa, fr, fe, hr, ft, hyA, vl, ee, wb) (nI s) := by
  unfold wpY_norm
  dsimp only
  have e : tm_N (tm_sg n A Z) R (m s) = tm_nz (tm_sg n A Z) R 128 (m s) := if_pos hl
  rw [e] at h1 h0
  exact ⟨129, yl_norm (m := m) hS hg hRU hH hRm hs hs2 h1 h0 129 0 T L bo bs be m (by omega) (by omega) hM (fun _ _ _ => rfl) hl rfl hP hF⟩
theorem yp_top {post : Int32 → Prop} (h0 : 1 ≤ ng) (h : post (nI (49 + 4 * (ng - 1)))) : wpY_top post (yn, yq, nI ng, ya, T, L, K, bo, bs, be, fa, fr, fe, hr, ft, hyA, vl, ee, wb) := by
  unfold wpY_top
  dsimp only
  rw [xi_m1 h0, show (4 : Int32) * nI (ng - 1) = nI (4 * (ng - 1)) from pk_mul 4 _, show (49 : Int32) + nI (4 * (ng - 1)) = nI (49 + 4 * (ng - 1)) from nI_add 49 _]
  exact h
theorem yp_close {post : Int32 → SY → Prop} {k : Nat} (hk : k < 8) (hM : cm_M 64 89 T L m) (hg0 : 1 ≤ ng) (hg8 : ng ≤ 8)
    (h1 : m (49 + 4 * (ng - 1)) ≠ m (49 + 4 * (ng - 1) + 1) → post (nI ng) (yn, yq, nI ng, nI k, T, L, K, bo, bs, be, fa, fr, fe, hr, ft, hyA, vl, ee, wb)) (h2 : m (49 + 4 * (ng - 1)) = m (49 + 4 * (ng - 1) + 1) → ng = 1 → post 0 (yn, yq, 0, -1, T, L, K, bo, bs, be, fa, fr, fe, hr, upd ft k 3, hyA, vl, ee, wb)) (h3 : m (49 + 4 * (ng - 1)) = m (49 + 4 * (ng - 1) + 1) → 1 < ng → post (nI (ng - 1)) (yn, yq, nI (ng - 1), nI k, T, L, K, bo, bs, be, fa, fr, fe, hr, ft, hyA, vl, ee, wb)) : wpY_closeCheck post (yn, yq, nI ng, nI k, T, L, K, bo, bs, be, fa, fr, fe, hr, ft, hyA, vl, ee, wb) := by
  unfold wpY_closeCheck
  dsimp only
  refine yp_top hg0 ?_
  rw [nI_1]
  refine yp_eqs hM (by omega) (by omega) (fun e => br_f (by decide) ?_) (fun e => br_t rfl (h1 e))
  rw [xi_m1 hg0]
  refine nm_e (pk_eq (ng - 1) 0 (fun z => ?_) (fun z => h3 e (by omega)))
  rw [nI_clamp (n := k) (by omega), z]
  exact ⟨vp_in_nI hk (by omega), nm_e (h2 e (by omega))⟩
def yf_p (m : Nat → List Nat) (hyv : Bool) (s0 v : Nat) : Prop := tm_vc v ∈ m s0 ∨ tm_vc v ∈ m (s0 + 1) ∨ (hyv = true ∧ (tm_vc v ∈ m (s0 + 2) ∨ tm_vc v ∈ m (s0 + 3)))
theorem yl_71 {post : Int32 → Prop} {J : Int32 → Prop} {x1 z0 : Int32} {s0 v : Nat} {p : Prop} (hM : cm_M 64 89 T L m) (hs : s0 + 1 < 89) (hv : v < 16) (hz : (z0 = 0 ∧ ¬ p) ∨ (¬ z0 = 0 ∧ p)) (h1 : ¬ (tm_vc v ∈ m s0 ∨ tm_vc v ∈ m (s0 + 1) ∨ p) → post (nI v)) (h0 : tm_vc v ∈ m s0 ∨ tm_vc v ∈ m (s0 + 1) ∨ p → J (nI v + 1)) : wY_fresh_71 post J x1 (nI s0) (nI v) (nI (tm_vc v)) z0 yn yq yg ya T L K bo bs be fa fr fe hr ft hyA vl ee wb := by
  unfold wY_fresh_71
  have hc := tm_vc_lt hv
  refine yp_occ hM (by omega) (by omega) (fun a => br_f (by decide) (nm_e (h0 (Or.inl a)))) (fun a => br_t rfl ?_)
  rw [nI_1 s0]
  refine yp_occ hM (by omega) (by omega) (fun b => br_f (by decide) (nm_e (h0 (Or.inr (Or.inl b))))) (fun b => br_t rfl ?_)
  rcases hz with ⟨z, hn⟩ | ⟨z, hy⟩
  · exact br_t z (h1 (fun y => by
      rcases y with y | y | y
      · exact a y
      · exact b y
      · exact hn y))
  · exact br_f z (nm_e (h0 (Or.inr (Or.inr hy))))
theorem yl_fr {post : Int32 → Prop} {sv : Nat} {hyv : Bool} (hM : cm_M 64 89 T L m) (hg0 : 1 ≤ ng) (hg8 : ng ≤ 8) (hsv : sv < 2) (hh : hyA (ng - 1) = if hyv = true then 1 else 0) (h1 : ∀ v, fr_l (yf_p m hyv (49 + 4 * (ng - 1))) (8 * sv) v → post (nI v)) (h0 : (∀ v, 8 * sv ≤ v → v < 8 * sv + 8 → yf_p m hyv (49 + 4 * (ng - 1)) v) → post (-1)) :
    ∀ f v, 8 * sv + 8 < f + v → 8 * sv ≤ v → v ≤ 8 * sv + 8 → (∀ u, 8 * sv ≤ u → u < v → yf_p m hyv (49 + 4 * (ng - 1)) u) → wY_fresh_10 post (nI sv) (nI (49 + 4 * (ng - 1))) yn yq (nI ng) ya T L K bo bs be fa fr fe hr ft hyA vl ee wb f (nI v) := by
  intro f
  induction f with
  | zero => intro v a b c; omega
  | succ f ih =>
    intro v a b c hu
    rw [wY_fresh_10]
    dsimp only
    rw [show nI sv * 8 = nI (sv * 8) from pk_mul sv 8, show nI (sv * 8) + 8 = nI (sv * 8 + 8) from nI_add _ 8]
    refine pk_le (sv * 8 + 8) v (fun hge => h0 (fun u u1 u2 => hu u u1 (by omega))) (fun hlt => ?_)
    have hv16 : v < 16 := by omega
    have hc := tm_vc_lt hv16
    refine yp_vch hv16 ?_
    rw [xi_m1 hg0, nI_clamp (n := ng - 1) (by omega), hh]
    refine ⟨vp_in_nI (by omega) (by omega), ?_⟩
    have hJ : yf_p m hyv (49 + 4 * (ng - 1)) v → wY_fresh_10 post (nI sv) (nI (49 + 4 * (ng - 1))) yn yq (nI ng) ya T L K bo bs be fa fr fe hr ft hyA vl ee wb f (nI v + 1) := by
      intro hp
      rw [nI_1]
      refine ih (v + 1) (by omega) (by omega) (by omega) (fun u u1 u2 => ?_)
      by_cases e : u = v
      · rw [e]; exact hp
      · exact hu u u1 (by omega)
    have hP1 : ¬ yf_p m hyv (49 + 4 * (ng - 1)) v → post (nI v) := fun hp => h1 v ⟨b, by omega, hp, hu⟩
    cases hyv with
    | false =>
      refine br_t rfl ?_
      unfold wY_fresh_70
      exact yl_71 (p := false = true ∧ (tm_vc v ∈ m (49 + 4 * (ng - 1) + 2) ∨ tm_vc v ∈ m (49 + 4 * (ng - 1) + 3))) hM (by omega) hv16 (Or.inl ⟨rfl, fun z => nomatch z.1⟩) hP1 hJ
    | true =>
      refine br_f (by decide) ?_
      rw [show nI (49 + 4 * (ng - 1)) + 2 = nI (49 + 4 * (ng - 1) + 2) from nI_add _ 2, show nI (49 + 4 * (ng - 1)) + 3 = nI (49 + 4 * (ng - 1) + 3) from nI_add _ 3]
      unfold wY_fresh_70 wY_fresh_66
      refine yp_occ hM (by omega) (by omega) (fun z => br_f (by decide) ?_) (fun z => br_t rfl ?_)
      · exact yl_71 (p := true = true ∧ (tm_vc v ∈ m (49 + 4 * (ng - 1) + 2) ∨ tm_vc v ∈ m (49 + 4 * (ng - 1) + 3))) hM (by omega) hv16 (Or.inr ⟨by decide, rfl, Or.inl z⟩) hP1 hJ
      · refine yp_occ hM (by omega) (by omega) (fun z2 => br_f (by decide) ?_) (fun z2 => br_t rfl ?_)
        · exact yl_71 (p := true = true ∧ (tm_vc v ∈ m (49 + 4 * (ng - 1) + 2) ∨ tm_vc v ∈ m (49 + 4 * (ng - 1) + 3))) hM (by omega) hv16 (Or.inr ⟨by decide, rfl, Or.inr z2⟩) hP1 hJ
        · exact yl_71 (p := true = true ∧ (tm_vc v ∈ m (49 + 4 * (ng - 1) + 2) ∨ tm_vc v ∈ m (49 + 4 * (ng - 1) + 3))) hM (by omega) hv16 (Or.inl ⟨rfl, fun y => by
            rcases y.2 with y | y
            · exact z y
            · exact z2 y⟩) hP1 hJ
theorem yp_fresh {post : Int32 → Prop} {sv : Nat} {hyv : Bool} (hM : cm_M 64 89 T L m) (hg0 : 1 ≤ ng) (hg8 : ng ≤ 8) (hsv : sv < 2) (hh : hyA (ng - 1) = if hyv = true then 1 else 0) (h1 : ∀ v, fr_l (yf_p m hyv (49 + 4 * (ng - 1))) (8 * sv) v → post (nI v)) (h0 : (∀ v, 8 * sv ≤ v → v < 8 * sv + 8 → yf_p m hyv (49 + 4 * (ng - 1)) v) → post (-1)) : wpY_fresh post (yn, yq, nI ng, ya, T, L, K, bo, bs, be, fa, fr, fe, hr, ft, hyA, vl, ee, wb) (nI sv) := by
  unfold wpY_fresh
  dsimp only
  refine yp_top hg0 ?_
  refine nm_r (e' := nI (8 * sv)) (by rw [show nI sv * 8 = nI (sv * 8) from pk_mul sv 8, Nat.mul_comm]) ⟨9, yl_fr hM hg0 hg8 hsv hh h1 h0 9 (8 * sv) (by omega) (Nat.le_refl _) (by omega) (fun u a b => by omega)⟩
end YD
