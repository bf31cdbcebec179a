/-! 40: textChar, setVar -/
theorem rt_dep {x : Int32} (h : x < 0) : ¬ (-1) - x < 0 := by
  rw [Int32.lt_iff_toInt_lt] at h ⊢
  have h0 : (0 : Int32).toInt = 0 := by decide
  have h1 : (-1 : Int32).toInt = -1 := by decide
  have hx := Int32.le_toInt x
  rw [Int32.toInt_sub, h1, h0]
  rw [h0] at h
  rw [Int.bmod_eq_of_le (by omega) (by omega)]
  omega
theorem i_vc_textChar {k : Nat} {u : SX} {v : SY} (I : i_Rel k u v) (hk : k + 5 ≤ 2560) (v1 : Int32) (v2 : Int32) (v3 : Int32) : wpX_textChar (fun r => wpY_textChar (fun r' => r' = r ∧ i_Rel (k + 5) u v) v v1 v2 v3) u v1 v2 v3 := by
  have I2 := I
  obtain ⟨n, q, ng, A, Z, hy, pr, val, e2, act, mX, mY, T, L, ay, gs, so, E, B, pv, vl, el, T', L', K, bo, bs, be, fa, fr, fe, hr, ft, hyA, vl', ee, wb, rfl, rfl, hI⟩ := I
  have hI0 := hI
  obtain ⟨hMX, hMY, hW, hL, hA, hsX, hsY, hP, hH, hHy, hvX, hvY⟩ := hI
  have hq8 := hW.2.1
  have hg8 := hW.2.2.1
  unfold wpX_textChar wpY_textChar
  dsimp only
  have hread : ∀ (sx sy : Nat), sx < 86 → sy < 89 → mX sx = mY sy → ∀ (G : Int32 → Prop), (∀ r, wpY_c (fun r_9 => narrow .char (.int ((r_9.toUInt32 % 65536).toInt32)) = .int ((r_9.toUInt32 % 65536).toInt32) ∧ ((r_9.toUInt32 % 65536).toInt32 = r ∧ i_Rel (k + 5) (nI n, nI q, act, nI ng, T, L, ay, gs, so, E, B, pv, vl, el) (nI n, nI q, nI ng, act, T', L', K, bo, bs, be, fa, fr, fe, hr, ft, hyA, vl', ee, wb))) (nI n, nI q, nI ng, act, T', L', K, bo, bs, be, fa, fr, fe, hr, ft, hyA, vl', ee, wb) (nI sy) v3 → G r) → wpX_symbolAt (fun r => narrow .char (.int r) = .int r ∧ G r) (nI n, nI q, act, nI ng, T, L, ay, gs, so, E, B, pv, vl, el) (nI sx) v3 := by
    intro sx sy hsx hsy he G hG
    by_cases hn : v3 < 0
    · exact xp_symn hn ⟨rfl, hG 0 (yp_cn hn ⟨rfl, rfl, I2⟩)⟩
    · obtain ⟨i, hi, rfl⟩ := nI_of hn
      have hb := cm_b hMX hsx i
      refine xp_sym hMX hsx hi ⟨(pk_charN (by omega)).1, hG _ (yp_c hMY hsy hi ?_)⟩
      rw [← he, xi_ch (by omega)]
      exact ⟨(pk_charN (by omega)).1, rfl, I2⟩
  by_cases h0 : v1 < 0
  · obtain ⟨d, hd, ed⟩ := nI_of (rt_dep h0)
    refine br_t h0 (nm_r ed ?_)
    by_cases hdg : d < ng
    · have a1 : ¬ nI ng ≤ nI d := nI_ge hdg (by omega)
      refine br_f a1 ?_
      by_cases s0 : v2 < 0
      · exact br_t s0 (br_t h0 (nm_r ed (br_f (nI_pos hd) (br_f a1 (br_t s0 ⟨rfl, I2⟩)))))
      · refine br_f s0 ?_
        by_cases s3 : v2 ≤ 3
        · obtain ⟨j, hj, rfl⟩ := nI_of s0
          have hj3 : j ≤ 3 := by
            rw [show (3 : Int32) = nI 3 from rfl, nI_leI hj (by omega)] at s3
            exact s3
          refine br_t s3 ?_
          have hg : nI ng - 1 - nI d = nI (ng - 1 - d) := by rw [xi_m1 (by omega), pk_sub (by omega)]
          have hsl : (49 : Int32) + 4 * nI (ng - 1 - d) + nI j = nI (49 + 4 * (ng - 1 - d) + j) := by
            rw [show (4 : Int32) * nI (ng - 1 - d) = nI (4 * (ng - 1 - d)) from pk_mul 4 _, show (49 : Int32) + nI (4 * (ng - 1 - d)) = nI (49 + 4 * (ng - 1 - d)) from nI_add 49 _, nI_add]
          rw [hg, hsl]
          obtain ⟨l1, l2, l3⟩ := hL.2.2.2 (ng - 1 - d) (by omega)
          obtain ⟨_, hyt, hyf⟩ := hW.2.2.2.2.2.2 (ng - 1 - d) (by omega)
          have hHd := hHy (ng - 1 - d) (by omega)
          by_cases j2 : j < 2
          · have b2 : nI j < 2 := nI_lt (b := 2) j2 (by decide)
            refine hread (49 + 4 * (ng - 1 - d) + j) (49 + 4 * (ng - 1 - d) + j) (by omega) (by omega) ?_ _ (fun r hr2 => br_t h0 (nm_r ed (br_f (nI_pos hd) (br_f a1 (br_f s0 (br_t s3 (nm_r hg (br_t b2 ?_))))))))
            · have : j = 0 ∨ j = 1 := by omega
              rcases this with rfl | rfl
              · exact l1.symm
              · exact l2.symm
            · unfold wY_textChar_100
              rw [hsl]
              exact hr2
          · have b2 : ¬ nI j < 2 := nI_nlt (b := 2) (by omega) hj
            have hin : vp_in (nI (ng - 1 - d)) 8 := vp_in_nI (by omega) (by omega)
            cases hyv : hy (ng - 1 - d) with
            | false =>
              rw [hyv, if_neg (by decide)] at hHd
              have hnil : mX (49 + 4 * (ng - 1 - d) + j) = [] := by
                have : j = 2 ∨ j = 3 := by omega
                rcases this with rfl | rfl
                · exact (hyf hyv).1
                · exact (hyf hyv).2
              by_cases hn : v3 < 0
              · refine xp_symn hn ⟨rfl, br_t h0 (nm_r ed (br_f (nI_pos hd) (br_f a1 (br_f s0 (br_t s3 (nm_r hg (br_f b2 ⟨hin, br_t ?_ ⟨rfl, I2⟩⟩)))))))⟩
                rw [nI_clamp (by omega)]
                exact hHd
              · obtain ⟨i, hi, rfl⟩ := nI_of hn
                refine xp_sym hMX (by omega) hi ?_
                rw [hnil, tm_at_ge (Nat.zero_le _)]
                refine ⟨rfl, br_t h0 (nm_r ed (br_f (nI_pos hd) (br_f a1 (br_f s0 (br_t s3 (nm_r hg (br_f b2 ⟨hin, br_t ?_ ⟨rfl, I2⟩⟩)))))))⟩
                rw [nI_clamp (by omega)]
                exact hHd
            | true =>
              rw [hyv, if_pos rfl] at hHd
              refine hread (49 + 4 * (ng - 1 - d) + j) (49 + 4 * (ng - 1 - d) + j) (by omega) (by omega) ?_ _ (fun r hr2 => br_t h0 (nm_r ed (br_f (nI_pos hd) (br_f a1 (br_f s0 (br_t s3 (nm_r hg (br_f b2 ⟨hin, br_f ?_ ?_⟩))))))))
              · have : j = 2 ∨ j = 3 := by omega
                rcases this with rfl | rfl
                · exact (l3 hyv).1.symm
                · exact (l3 hyv).2.symm
              · rw [nI_clamp (by omega), hHd]
                decide
              · unfold wY_textChar_100
                rw [hsl]
                exact hr2
        · exact br_f s3 (br_t h0 (nm_r ed (br_f (nI_pos hd) (br_f a1 (br_f s0 (br_f s3 ⟨rfl, I2⟩))))))
    · have a1 : nI ng ≤ nI d := nI_le (by omega) hd
      exact br_t a1 (br_t h0 (nm_r ed (br_f (nI_pos hd) (br_t a1 ⟨rfl, I2⟩))))
  · obtain ⟨w, hw, rfl⟩ := nI_of h0
    refine br_f h0 ?_
    by_cases hwq : w < q
    · have a1 : ¬ nI q ≤ nI w := nI_ge hwq (by omega)
      refine br_f a1 ?_
      by_cases s0 : v2 < 0
      · exact br_t s0 (br_f h0 (br_f a1 (br_t s0 ⟨rfl, I2⟩)))
      · refine br_f s0 ?_
        by_cases s1 : v2 ≤ 1
        · obtain ⟨j, hj, rfl⟩ := nI_of s0
          have hj1 : j ≤ 1 := by
            rw [show (1 : Int32) = nI 1 from rfl, nI_leI hj (by omega)] at s1
            exact s1
          refine br_t s1 ?_
          rw [show (2 : Int32) * nI w = nI (2 * w) from pk_mul 2 w, show (1 : Int32) + nI (2 * w) = nI (1 + 2 * w) from nI_add 1 _, nI_add, show (33 : Int32) + nI (2 * w) = nI (33 + 2 * w) from nI_add 33 _, nI_add]
          refine hread (1 + 2 * w + j) (33 + 2 * w + j) (by omega) (by omega) ?_ _ (fun r hr2 => br_f h0 (br_f a1 (br_f s0 (br_t s1 hr2))))
          have := hL.2.1 (2 * w + j) (by omega)
          rw [← Nat.add_assoc, ← Nat.add_assoc] at this
          exact this.symm
        · exact br_f s1 (br_f h0 (br_f a1 (br_f s0 (br_f s1 ⟨rfl, I2⟩))))
    · have a1 : nI q ≤ nI w := nI_le (by omega) hw
      exact br_t a1 (br_f h0 (br_t a1 ⟨rfl, I2⟩))
