/-! 41: setVar -/
def nb_i (b : Int32) (i : Nat) : Nat := (b >>> (nI (4 * i) &&& 31)).toBitVec.toNat % 16
theorem nb_e (b : Int32) (i : Nat) : (b >>> ((4 * nI i) &&& 31)) &&& 15 = nI (nb_i b i) := by
  rw [show (4 : Int32) * nI i = nI (4 * i) from pk_mul 4 i]
  exact pk_and _ 4 (by decide)
theorem nb_lt (b : Int32) (i : Nat) : nb_i b i < 16 := Nat.mod_lt _ (by decide)
section SV
variable {xn xq xa xg : Int32} {T L ay gs so E B pv vl el : Nat → Int32} {yn yq yg ya : Int32} {K bo bs be fa fr fe hr ft hyA ee wb : Nat → Int32} {b : Int32} {v a : Nat}
theorem sx_49 {post : Int32 → SX → Prop} (hv : v < 16) (ha : a ≤ 4) (h1 : (∀ j, j < a → nb_i b j ≤ 3) → post 1 (xn, xq, xa, xg, T, L, ay, gs, so, E, B, pv, upd vl v (nI a), upd el v b)) (h0 : ∀ j, j < a → 3 < nb_i b j → post 0 (xn, xq, xa, xg, T, L, ay, gs, so, E, B, pv, vl, el)) : ∀ f i, a < f + i → i ≤ a → (∀ j, j < i → nb_i b j ≤ 3) → wX_setVar_49 post (nI v) (nI a) b xn xq xa xg T L ay gs so E B pv vl el f (nI i) := by
  intro f
  induction f with
  | zero => intro i x y; omega
  | succ f ih =>
    intro i x y hj
    rw [wX_setVar_49]
    dsimp only
    rw [nI_clamp (n := v) (by omega), nb_e]
    have hl := nb_lt b i
    have hin : vp_in (nI v) 16 := vp_in_nI hv (by omega)
    refine pk_le a i (fun hge => ⟨hin, nm_e ⟨hin, nm_e (h1 (fun j z => hj j (by omega)))⟩⟩) (fun hlt => pk_le (nb_i b i) 3 (fun z => ?_) (fun z => h0 i hlt z))
    refine nm_r (nI_1 i) (ih (i + 1) (by omega) (by omega) (fun j z2 => ?_))
    by_cases e : j = i
    · rw [e]; exact z
    · exact hj j (by omega)
theorem sy_87 {post : Int32 → SY → Prop} (hv : v < 16) (hv8 : 8 ≤ v) (ha : a ≤ 4) (h1 : ∀ e', (∀ j, j < a → e' ((v - 8) * 4 + j) = nI (nb_i b j)) → (∀ t, t < (v - 8) * 4 ∨ (v - 8) * 4 + 4 ≤ t → e' t = ee t) → post 1 (yn, yq, yg, ya, T, L, K, bo, bs, be, fa, fr, fe, hr, ft, hyA, upd vl v (nI a), e', wb)) : ∀ f i e', a < f + i → i ≤ a → (∀ j, j < i → e' ((v - 8) * 4 + j) = nI (nb_i b j)) → (∀ t, t < (v - 8) * 4 ∨ (v - 8) * 4 + 4 ≤ t → e' t = ee t) → wY_setVar_87 post (nI v) (nI a) b yn yq yg ya f (nI i) T L K bo bs be fa fr fe hr ft hyA vl e' wb := by
  intro f
  induction f with
  | zero => intro i e' x y; omega
  | succ f ih =>
    intro i e' x y hj hk
    rw [wY_setVar_87]
    dsimp only
    rw [nI_clamp (n := v) (by omega), nb_e, show nI v - 8 = nI (v - 8) from pk_sub (b := 8) hv8, show nI (v - 8) * 4 = nI ((v - 8) * 4) from pk_mul _ 4, nI_add]
    have hin : vp_in (nI v) 16 := vp_in_nI hv (by omega)
    refine pk_le a i (fun hge => ⟨hin, nm_e (h1 e' (fun j z => hj j (by omega)) hk)⟩) (fun hlt => ?_)
    rw [nI_clamp (n := (v - 8) * 4 + i) (by omega)]
    refine ⟨vp_in_nI (by omega) (by omega), nm_e (nm_r (nI_1 i) (ih (i + 1) _ (by omega) (by omega) (fun j z => ?_) (fun t z => ?_)))⟩
    · by_cases q : j = i
      · rw [q, cm_us]
      · rw [cm_un (by omega)]
        exact hj j (by omega)
    · rw [cm_un (by omega)]
      exact hk t z
theorem sy_57 {post : Int32 → SY → Prop} (hv : v < 16) (hv8 : 8 ≤ v) (ha : a ≤ 4) (h1 : (∀ j, j < a → nb_i b j ≤ 3) → ∀ e', (∀ j, j < a → e' ((v - 8) * 4 + j) = nI (nb_i b j)) → (∀ t, t < (v - 8) * 4 ∨ (v - 8) * 4 + 4 ≤ t → e' t = ee t) → post 1 (yn, yq, yg, ya, T, L, K, bo, bs, be, fa, fr, fe, hr, ft, hyA, upd vl v (nI a), e', wb)) (h0 : ∀ j, j < a → 3 < nb_i b j → post 0 (yn, yq, yg, ya, T, L, K, bo, bs, be, fa, fr, fe, hr, ft, hyA, vl, ee, wb)) : ∀ f i, a < f + i → i ≤ a → (∀ j, j < i → nb_i b j ≤ 3) → wY_setVar_57 post (nI v) (nI a) b yn yq yg ya T L K bo bs be fa fr fe hr ft hyA vl ee wb f (nI i) := by
  intro f
  induction f with
  | zero => intro i x y; omega
  | succ f ih =>
    intro i x y hj
    rw [wY_setVar_57]
    dsimp only
    rw [nb_e]
    have hl := nb_lt b i
    refine pk_le a i (fun hge => ?_) (fun hlt => pk_le (nb_i b i) 3 (fun z => ?_) (fun z => h0 i hlt z))
    · exact ⟨a + 1, sy_87 hv hv8 ha (h1 (fun j z => hj j (by omega))) (a + 1) 0 ee (by omega) (Nat.zero_le _) (fun j z => absurd z (Nat.not_lt_zero _)) (fun _ _ => rfl)⟩
    · refine nm_r (nI_1 i) (ih (i + 1) (by omega) (by omega) (fun j z2 => ?_))
      by_cases e : j = i
      · rw [e]; exact z
      · exact hj j (by omega)
end SV
theorem i_vc_setVar {k : Nat} {u : SX} {v : SY} (I : i_Rel k u v) (hk : k + 5 ≤ 2560) (v1 : Int32) (v2 : Int32) (v3 : Int32) : wpX_setVar (fun r u' => wpY_setVar (fun r' v' => r' = r ∧ i_Rel (k + 5) u' v') v v1 v2 v3) u v1 v2 v3 := by
  have I2 := I
  obtain ⟨n, q, ng, A, Z, hy, pr, val, e2, act, mX, mY, T, L, ay, gs, so, E, B, pv, vl, el, T', L', K, bo, bs, be, fa, fr, fe, hr, ft, hyA, vl', ee, wb, rfl, rfl, hI⟩ := I
  have hI0 := hI
  obtain ⟨hMX, hMY, hW, hL, hA, hsX, hsY, hP, hH, hHy, hvX, hvY⟩ := hI
  unfold wpX_setVar wpY_setVar wY_setVar_31
  dsimp only
  by_cases h0 : v1 < 0
  · have h8 : v1 < 8 := Int32.lt_trans h0 (by decide)
    exact br_t h0 (br_t h0 (br_t h8 ⟨rfl, I2⟩))
  · obtain ⟨w, hw, rfl⟩ := nI_of h0
    refine br_f h0 ?_
    by_cases h16 : w < 16
    · have a16 : ¬ (16 : Int32) ≤ nI w := nI_ge (b := 16) h16 (by decide)
      have a15 : ¬ (15 : Int32) < nI w := nI_nlt (a := 15) (by omega) (by decide)
      refine br_f a16 ?_
      by_cases hneg : v2 < 0
      · have hng : ¬ (0 : Int32) ≤ v2 := Int32.not_le.mpr hneg
        refine br_f hng (br_f h0 ?_)
        by_cases w8 : w < 8
        · exact br_f (nI_ge (b := 8) w8 (by decide)) (br_t hneg ⟨rfl, I2⟩)
        · exact br_t (nI_le (a := 8) (by omega) hw) (br_f (nI_nlt (b := 8) (by omega) hw) (br_f a15 (br_t hneg ⟨rfl, I2⟩)))
      · have hng : (0 : Int32) ≤ v2 := Int32.not_lt.mp hneg
        obtain ⟨a, ha, rfl⟩ := nI_of hneg
        refine br_t hng ?_
        by_cases w8 : w < 8
        · have b8 : ¬ (8 : Int32) ≤ nI w := nI_ge (b := 8) w8 (by decide)
          refine br_f b8 ?_
          by_cases a7 : a ≤ 7
          · have c7 : nI a ≤ 7 := nI_le (b := 7) a7 (by decide)
            have hin : vp_in (nI w) 16 := vp_in_nI h16 (by omega)
            refine br_t c7 ⟨hin, nm_e (br_f h0 (br_f b8 (br_f hneg (br_t c7 ⟨hin, nm_e ⟨rfl, ?_⟩⟩))))⟩
            rw [nI_clamp (n := w) (by omega)]
            obtain ⟨val', q1, q2⟩ : ∃ f : Nat → Nat, f w = a ∧ ∀ x, x ≠ w → f x = val x := ⟨fun x => if x = w then a else val x, if_pos rfl, fun x h => if_neg h⟩
            refine re_mk (val := val') (e2 := e2) ⟨hMX, hMY, hW, hL, hA, hsX, hsY, hP, hH, hHy, fun x hx => ?_, fun x hx => ?_⟩
            · by_cases e : x = w
              · subst e
                rw [cm_us, q1]
                exact ⟨rfl, a7, fun z => by omega⟩
              · rw [cm_un e, q2 x e]
                exact hvX x hx
            · by_cases e : x = w
              · subst e
                rw [cm_us, q1]
                exact ⟨rfl, a7, fun z => by omega⟩
              · rw [cm_un e, q2 x e]
                exact hvY x hx
          · have c7 : ¬ nI a ≤ 7 := nI_ge (a := 7) (by omega) ha
            exact br_f c7 (br_f h0 (br_f b8 (br_f hneg (br_f c7 ⟨rfl, I2⟩))))
        · have b8 : (8 : Int32) ≤ nI w := nI_le (a := 8) (by omega) hw
          have b8' : ¬ nI w < 8 := nI_nlt (b := 8) (by omega) hw
          refine br_t b8 ?_
          by_cases a4 : a ≤ 4
          · have c4 : nI a ≤ 4 := nI_le (b := 4) a4 (by decide)
            refine br_t c4 ⟨a + 1, sx_49 h16 a4 (fun hok => ?_) (fun j hj hbad => ?_) (a + 1) 0 (by omega) (Nat.zero_le _) (fun j z => absurd z (Nat.not_lt_zero _))⟩
            · refine br_f h0 (br_t b8 (br_f b8' (br_f a15 (br_f hneg (br_t c4 ⟨a + 1, sy_57 h16 (by omega) a4 (fun _ e' he1 he2 => ?_) (fun j hj hbad => ?_) (a + 1) 0 (by omega) (Nat.zero_le _) (fun j z => absurd z (Nat.not_lt_zero _))⟩)))))
              · obtain ⟨val', q1, q2⟩ : ∃ f : Nat → Nat, f w = a ∧ ∀ x, x ≠ w → f x = val x := ⟨fun x => if x = w then a else val x, if_pos rfl, fun x h => if_neg h⟩
                obtain ⟨e3, r1, r2⟩ : ∃ f : Nat → Nat → Nat, f w = nb_i v3 ∧ ∀ x, x ≠ w → f x = e2 x := ⟨fun x => if x = w then nb_i v3 else e2 x, if_pos rfl, fun x h => if_neg h⟩
                refine ⟨rfl, re_mk (val := val') (e2 := e3) ⟨hMX, hMY, hW, hL, hA, hsX, hsY, hP, hH, hHy, fun x hx => ?_, fun x hx => ?_⟩⟩
                · by_cases e : x = w
                  · subst e
                    rw [cm_us, cm_us, q1, r1]
                    refine ⟨rfl, by omega, fun _ => ⟨a4, fun i hi => ⟨hok i hi, ?_⟩⟩⟩
                    have := nb_e v3 i
                    rw [show (4 : Int32) * nI i = nI (4 * i) from pk_mul 4 i] at this
                    exact this
                  · rw [cm_un e, cm_un e, q2 x e, r2 x e]
                    exact hvX x hx
                · by_cases e : x = w
                  · subst e
                    rw [cm_us, q1, r1]
                    exact ⟨rfl, by omega, fun _ => ⟨a4, fun i hi => ⟨hok i hi, he1 i hi⟩⟩⟩
                  · rw [cm_un e, q2 x e, r2 x e]
                    have := hvY x hx
                    refine ⟨this.1, this.2.1, fun z => ⟨(this.2.2 z).1, fun i hi => ?_⟩⟩
                    have h4 := (this.2.2 z).1
                    rw [he2 _ (by omega)]
                    exact (this.2.2 z).2 i hi
              · exact absurd (hok j hj) (by omega)
            · exact br_f h0 (br_t b8 (br_f b8' (br_f a15 (br_f hneg (br_t c4 ⟨a + 1, sy_57 h16 (by omega) a4 (fun hok => absurd (hok j hj) (by omega)) (fun _ _ _ => ⟨rfl, I2⟩) (a + 1) 0 (by omega) (Nat.zero_le _) (fun j z => absurd z (Nat.not_lt_zero _))⟩)))))
          · have c4 : ¬ nI a ≤ 4 := nI_ge (a := 4) (by omega) ha
            exact br_f c4 (br_f h0 (br_t b8 (br_f b8' (br_f a15 (br_f hneg (br_f c4 ⟨rfl, I2⟩))))))
    · have a16 : (16 : Int32) ≤ nI w := nI_le (a := 16) (by omega) hw
      have a15 : (15 : Int32) < nI w := nI_lt (a := 15) (by omega) hw
      exact br_t a16 (br_f h0 (br_t (nI_le (a := 8) (by omega) hw) (br_f (nI_nlt (b := 8) (by omega) hw) (br_t a15 ⟨rfl, I2⟩))))
