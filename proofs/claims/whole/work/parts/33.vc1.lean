/-! 33: the small methods (the heads as owed) -/
theorem rx_nn {x : Int32} (h : ¬ x < 0) : ∃ j : Nat, j < 2 ^ 31 ∧ x = nI j := nI_of h
theorem i_vc_goalCount {k : Nat} {u : SX} {v : SY} (I : i_Rel k u v) (hk : k + 5 ≤ 2560) : wpX_goalCount (fun r => wpY_goalCount (fun r' => r' = r ∧ i_Rel (k + 5) u v) v) u := by
  have I2 := I
  obtain ⟨n, q, ng, A, Z, hy, pr, val, e2, act, mX, mY, T, L, ay, gs, so, E, B, pv, vl, el, T', L', K, bo, bs, be, fa, fr, fe, hr, ft, hyA, vl', ee, wb, rfl, rfl, hI⟩ := I
  have hI0 := hI
  obtain ⟨hMX, hMY, hW, hL, hA, hsX, hsY, hP, hH, hHy, hvX, hvY⟩ := hI
  unfold wpX_goalCount wpY_goalCount
  dsimp only
  rcases re_act hI0 with ⟨rfl, rfl⟩ | ⟨kk, k1, k2, rfl, k3, k4, k5⟩
  · exact br_f (by decide) ⟨rfl, I2⟩
  · exact br_t (nI_pos' (by omega)) ⟨rfl, I2⟩
theorem i_vc_status {k : Nat} {u : SX} {v : SY} (I : i_Rel k u v) (hk : k + 5 ≤ 2560) (v1 : Int32) : wpX_status (fun r => wpY_status (fun r' => r' = r ∧ i_Rel (k + 5) u v) v v1) u v1 := by
  have I2 := I
  obtain ⟨n, q, ng, A, Z, hy, pr, val, e2, act, mX, mY, T, L, ay, gs, so, E, B, pv, vl, el, T', L', K, bo, bs, be, fa, fr, fe, hr, ft, hyA, vl', ee, wb, rfl, rfl, hI⟩ := I
  have hI0 := hI
  obtain ⟨hMX, hMY, hW, hL, hA, hsX, hsY, hP, hH, hHy, hvX, hvY⟩ := hI
  unfold wpX_status wpY_status
  dsimp only
  have hq := hW.2.1
  by_cases h0 : v1 < 0
  · exact br_t h0 (br_t h0 ⟨rfl, I2⟩)
  · obtain ⟨j, hj, rfl⟩ := nI_of h0
    refine br_f h0 ?_
    by_cases hjq : j < q
    · have h1 : nI j < nI q := nI_lt hjq (by omega)
      obtain ⟨p1, p2, p3⟩ := hP j (by omega)
      rw [nI_clamp (n := j) (by omega), p1]
      refine br_t h1 ⟨vp_in_nI (by omega) (by omega), ?_⟩
      have hfin : ∀ r, ft j = r → (nI j < 0 → (0 : Int32) = r ∧ i_Rel (k + 5) (nI n, nI q, act, nI ng, T, L, ay, gs, so, E, B, pv, vl, el) (nI n, nI q, nI ng, act, T', L', K, bo, bs, be, fa, fr, fe, hr, ft, hyA, vl', ee, wb)) ∧ (¬ nI j < 0 → (nI j < nI q → vp_in (nI j) 8 ∧ (ft j = r ∧ i_Rel (k + 5) (nI n, nI q, act, nI ng, T, L, ay, gs, so, E, B, pv, vl, el) (nI n, nI q, nI ng, act, T', L', K, bo, bs, be, fa, fr, fe, hr, ft, hyA, vl', ee, wb))) ∧ (¬ nI j < nI q → (0 : Int32) = r ∧ i_Rel (k + 5) (nI n, nI q, act, nI ng, T, L, ay, gs, so, E, B, pv, vl, el) (nI n, nI q, nI ng, act, T', L', K, bo, bs, be, fa, fr, fe, hr, ft, hyA, vl', ee, wb))) :=
        fun r e => br_f h0 (br_t h1 ⟨vp_in_nI (by omega) (by omega), e, I2⟩)
      by_cases hpj : pr j = true
      · rw [if_pos hpj] at p3 ⊢
        exact br_f (by decide) (hfin 3 p3)
      · rw [if_neg hpj] at p3 ⊢
        rw [if_pos hjq] at p3
        refine br_t rfl ?_
        by_cases ha : act = nI j
        · rw [if_pos ha] at p3
          exact br_t ha.symm (hfin 2 p3)
        · rw [if_neg ha] at p3
          exact br_f (fun z => ha z.symm) (hfin 1 p3)
    · have h1 : ¬ nI j < nI q := nI_nlt (by omega) hj
      exact br_f h1 (br_f h0 (br_f h1 ⟨rfl, I2⟩))
theorem i_vc_getVar {k : Nat} {u : SX} {v : SY} (I : i_Rel k u v) (hk : k + 5 ≤ 2560) (v1 : Int32) (v2 : Int32) : wpX_getVar (fun r => wpY_getVar (fun r' => r' = r ∧ i_Rel (k + 5) u v) v v1 v2) u v1 v2 := by
  have I2 := I
  obtain ⟨n, q, ng, A, Z, hy, pr, val, e2, act, mX, mY, T, L, ay, gs, so, E, B, pv, vl, el, T', L', K, bo, bs, be, fa, fr, fe, hr, ft, hyA, vl', ee, wb, rfl, rfl, hI⟩ := I
  have hI0 := hI
  obtain ⟨hMX, hMY, hW, hL, hA, hsX, hsY, hP, hH, hHy, hvX, hvY⟩ := hI
  unfold wpX_getVar wpY_getVar
  dsimp only
  by_cases h0 : v1 < 0
  · exact br_t h0 (br_t h0 ⟨rfl, I2⟩)
  · obtain ⟨j, hj, rfl⟩ := nI_of h0
    refine br_f h0 ?_
    by_cases h16 : j < 16
    · have a16 : nI j < 16 := nI_lt (b := 16) h16 (by decide)
      have a15 : nI j ≤ 15 := nI_le (b := 15) (by omega) (by decide)
      obtain ⟨x1, x2, x3⟩ := hvX j h16
      obtain ⟨y1, y2, y3⟩ := hvY j h16
      have hin : vp_in (nI j) 16 := vp_in_nI h16 (by omega)
      rw [nI_clamp (n := j) (by omega), x1, y1]
      refine br_t a16 ?_
      by_cases h8 : j < 8
      · have a8 : nI j < 8 := nI_lt (b := 8) h8 (by decide)
        have b8 : ¬ (8 : Int32) ≤ nI j := nI_ge (b := 8) h8 (by decide)
        exact br_t a8 ⟨hin, br_f h0 (br_t a15 (br_f b8 ⟨hin, rfl, I2⟩))⟩
      · have a8 : ¬ nI j < 8 := nI_nlt (b := 8) (by omega) hj
        have b8 : (8 : Int32) ≤ nI j := nI_le (a := 8) (by omega) hj
        refine br_f a8 ?_
        by_cases hm : v2 = -1
        · exact br_t hm ⟨hin, br_f h0 (br_t a15 (br_t b8 (br_t hm ⟨hin, rfl, I2⟩)))⟩
        · refine br_f hm ?_
          by_cases hn : v2 < 0
          · exact br_t hn (br_f h0 (br_t a15 (br_t b8 (br_f hm (br_t hn ⟨rfl, I2⟩)))))
          · obtain ⟨i, hi, rfl⟩ := nI_of hn
            obtain ⟨x4, x5⟩ := x3 (by omega)
            obtain ⟨y4, y5⟩ := y3 (by omega)
            refine br_f hn ⟨hin, ?_⟩
            by_cases hlt : i < val j
            · have c1 : nI i < nI (val j) := nI_lt hlt (by omega)
              have c2 : ¬ nI (val j) ≤ nI i := nI_ge hlt (by omega)
              refine br_t c1 ⟨hin, br_f h0 (br_t a15 (br_t b8 (br_f hm (br_f hn ⟨hin, br_f c2 ?_⟩))))⟩
              rw [show nI j - 8 = nI (j - 8) from pk_sub (b := 8) (by omega), show nI (j - 8) * 4 = nI ((j - 8) * 4) from pk_mul _ 4, nI_add, nI_clamp (n := (j - 8) * 4 + i) (by omega), (y5 i hlt).2, show (4 : Int32) * nI i = nI (4 * i) from pk_mul 4 i, (x5 i hlt).2]
              exact ⟨vp_in_nI (by omega) (by omega), rfl, I2⟩
            · have c1 : ¬ nI i < nI (val j) := nI_nlt (by omega) hi
              have c2 : nI (val j) ≤ nI i := nI_le (by omega) hi
              exact br_f c1 (br_f h0 (br_t a15 (br_t b8 (br_f hm (br_f hn ⟨hin, br_t c2 ⟨rfl, I2⟩⟩)))))
    · have a16 : ¬ nI j < 16 := nI_nlt (b := 16) (by omega) hj
      have a15 : ¬ nI j ≤ 15 := nI_ge (a := 15) (by omega) hj
      exact br_f a16 (br_f h0 (br_f a15 ⟨rfl, I2⟩))
theorem i_vc_funcInfo {k : Nat} {u : SX} {v : SY} (I : i_Rel k u v) (hk : k + 5 ≤ 2560) (v1 : Int32) : wpX_funcInfo (fun r => wpY_funcInfo (fun r' => r' = r ∧ i_Rel (k + 5) u v) v v1) u v1 := by
  have I2 := I
  obtain ⟨n, q, ng, A, Z, hy, pr, val, e2, act, mX, mY, T, L, ay, gs, so, E, B, pv, vl, el, T', L', K, bo, bs, be, fa, fr, fe, hr, ft, hyA, vl', ee, wb, rfl, rfl, hI⟩ := I
  have hI0 := hI
  obtain ⟨hMX, hMY, hW, hL, hA, hsX, hsY, hP, hH, hHy, hvX, hvY⟩ := hI
  unfold wpX_funcInfo wpY_funcInfo
  dsimp only
  have hn8 := hW.1.1
  by_cases h0 : v1 < 0
  · exact br_t h0 (br_t h0 ⟨rfl, I2⟩)
  · obtain ⟨j, hj, rfl⟩ := nI_of h0
    refine br_f h0 ?_
    by_cases hjn : j < n
    · have h1 : nI j < nI n := nI_lt hjn (by omega)
      refine br_t h1 (nm_r (e' := nI (70 + j)) (nI_add 70 j) ?_)
      have hsg := tm_sg_f (A := A) (Z := Z) hjn hn8
      obtain ⟨g1, g2, g3⟩ := (hsX (70 + j) (by omega)).1 _ _ hsg
      obtain ⟨f1, f2, f3⟩ := hsY j hjn
      refine xp_rcount hMX (by omega) (fun _ => ?_) (fun z => absurd (show tm_fn (70 + j) by omega) z)
      have hin : vp_in (nI (70 + j)) 256 := vp_in_nI (by omega) (by omega)
      have hin8 : vp_in (nI j) 8 := vp_in_nI (by omega) (by omega)
      rw [nI_clamp (n := 70 + j) (by omega), g1, g2, g3]
      refine ⟨hin, hin, hin, br_f h0 (br_t h1 ?_)⟩
      have a0 : hr (2 * j + 0) = if iv_R mX (4 * j) = [] then 0 else 1 := hH j 0 (by omega) (by omega)
      have a1 : hr (2 * j + 1) = if iv_R mX (4 * j + 2) = [] then 0 else 1 := hH j 1 (by omega) (by omega)
      unfold wY_funcInfo_30 wY_funcInfo_48
      rw [show (2 : Int32) * nI j = nI (2 * j + 0) from pk_mul 2 j, nI_1, nI_clamp (n := 2 * j + 0) (by omega), nI_clamp (n := 2 * j + 0 + 1) (by omega), nI_clamp (n := j) (by omega), f1, f2, f3]
      rw [show hr (2 * j + 0 + 1) = hr (2 * j + 1) from rfl, a0, a1]
      unfold rc_n
      rw [show 70 + j - 70 = j by omega]
      have i1 : vp_in (nI (2 * j + 0)) 16 := vp_in_nI (by omega) (by omega)
      have i2 : vp_in (nI (2 * j + 0 + 1)) 16 := vp_in_nI (by omega) (by omega)
      refine ⟨i1, ?_⟩
      by_cases e0 : iv_R mX (4 * j) = []
      · rw [if_pos e0]
        refine br_t rfl ⟨i2, ?_⟩
        by_cases e1 : iv_R mX (4 * j + 2) = []
        · rw [if_pos e1]
          exact br_t rfl (nm_e ⟨hin8, hin8, hin8, by rw [if_pos e0, if_pos e1]; rfl, I2⟩)
        · rw [if_neg e1]
          exact br_f (by decide) (nm_e ⟨hin8, hin8, hin8, by rw [if_pos e0, if_neg e1]; rfl, I2⟩)
      · rw [if_neg e0]
        refine br_f (by decide) ⟨i2, ?_⟩
        by_cases e1 : iv_R mX (4 * j + 2) = []
        · rw [if_pos e1]
          exact br_t rfl (nm_e ⟨hin8, hin8, hin8, by rw [if_neg e0, if_pos e1]; rfl, I2⟩)
        · rw [if_neg e1]
          exact br_f (by decide) (nm_e ⟨hin8, hin8, hin8, by rw [if_neg e0, if_neg e1]; rfl, I2⟩)
    · have h1 : ¬ nI j < nI n := nI_nlt (by omega) hj
      exact br_f h1 (br_f h0 (br_f h1 ⟨rfl, I2⟩))
theorem i_vc_feed {k : Nat} {u : SX} {v : SY} (I : i_Rel k u v) (hk : k + 5 ≤ 2560) (v1 : Int32) (v2 : Int32) (v3 : Int32) (v4 : Int32) : wpX_feed (fun r u' => wpY_feed (fun r' v' => r' = r ∧ i_Rel (k + 5) u' v') v v1 v2 v3 v4) u v1 v2 v3 v4 := by
  obtain ⟨n, q, ng, A, Z, hy, pr, val, e2, act, mX, mY, T, L, ay, gs, so, E, B, pv, vl, el, T', L', K, bo, bs, be, fa, fr, fe, hr, ft, hyA, vl', ee, wb, rfl, rfl, hI⟩ := I
  have hI0 := hI
  obtain ⟨hMX, hMY, hW, hL, hA, hsX, hsY, hP, hH, hHy, hvX, hvY⟩ := hI
  have h48 := hW.2.2.2.1
  have e0 : mY 0 = mX 0 := hL.1
  refine xp_feed hMX h48 (fun hle T1 L1 hM1 => ?_) (fun hgt T1 hM1 => ?_)
  · refine yp_feed hMY (by rw [e0]; exact h48) ?_ ?_
    · rw [e0]
      intro _ T2 L2 wb2 hM2
      refine ⟨rfl, re_mk (re_keep0 hI0 hM1 (fun s a b => cm_set_n (by omega)) hM2 (fun s a b => cm_set_n (by omega)) ?_ ?_)⟩
      · rw [cm_set_s, cm_set_s]
      · rw [cm_set_s, List.length_append]
        exact hle
    · rw [e0]
      intro z
      omega
  · refine yp_feed hMY (by rw [e0]; exact h48) ?_ ?_
    · rw [e0]
      intro z
      omega
    · rw [e0]
      intro _ wb2
      exact ⟨rfl, re_mk (re_keep hI0 hM1 (fun _ _ => rfl) hMY (fun _ _ => rfl))⟩
