/-! 30: the law's loops -/
section MG
variable {L : Nat} {xs : Nat → Int32} {kc ks : Nat}
theorem mv_565 {post : Int32 → Prop} {J : Int32 → Int32 → Int32 → Int32 → Int32 → Int32 → (Nat → Int32) → (Nat → Int32) → (Nat → Int32) → (Nat → Int32) → (Nat → Int32) → (Nat → Int32) → (Nat → Int32) → (Nat → Int32) → (Nat → Int32) → (Nat → Int32) → Prop} {x3 : Int32} (hJ : ∀ (mk : Nat) (M : Nat → Prop) (c1 c2 c3 c4 : Int32) (c5 c6 c7 c8 c9 c10 c11 c12 c13 c14 : Nat → Int32), vz_S mk M → li_T 4 lz_A lz_Z M (c1, c2, c3, c4, c5, c6, c7, c8, c9, c10, c11, c12, c13, c14) → J (nI mk) (x3 + 3) c1 c2 c3 c4 c5 c6 c7 c8 c9 c10 c11 c12 c13 c14) : ∀ (f k mk : Nat) (M : Nat → Prop) (c1 c2 c3 c4 : Int32) (c5 c6 c7 c8 c9 c10 c11 c12 c13 c14 : Nat → Int32), 8 < f + k → k ≤ 8 → vz_S mk M → li_T 4 lz_A lz_Z M (c1, c2, c3, c4, c5, c6, c7, c8, c9, c10, c11, c12, c13, c14) → wL_law_565 post L xs J x3 kc ks f (nI mk) (nI k) c1 c2 c3 c4 c5 c6 c7 c8 c9 c10 c11 c12 c13 c14 := by
  intro f
  induction f with
  | zero =>
    intro k mk M c1 c2 c3 c4 c5 c6 c7 c8 c9 c10 c11 c12 c13 c14 h1 h2
    omega
  | succ f ih =>
    intro k mk M c1 c2 c3 c4 c5 c6 c7 c8 c9 c10 c11 c12 c13 c14 h1 h2 hm h
    rw [wL_law_565]
    refine pk_le 8 k (fun hge => nm_e (hJ mk M c1 c2 c3 c4 c5 c6 c7 c8 c9 c10 c11 c12 c13 c14 hm h)) (fun hlt => ?_)
    refine mw_status h hlt (fun r hr1 hr2 => ?_)
    obtain ⟨hb, _⟩ := vz_S_bit hm (v := k) (by omega)
    have h597 : wL_law_597 post L xs J (wL_law_565 post L xs J x3 kc ks f) (nI mk) x3 (nI k) r kc ks c1 c2 c3 c4 c5 c6 c7 c8 c9 c10 c11 c12 c13 c14 := by
      unfold wL_law_597
      refine ⟨fun e => ?_, fun e => nm_r (nI_1 k) (ih (k + 1) mk M c1 c2 c3 c4 c5 c6 c7 c8 c9 c10 c11 c12 c13 c14 (by omega) (by omega) hm h)⟩
      refine nm_r (e' := nI (mk ||| 2 ^ k)) (by rw [vz_one (by omega), vz_or]) ?_
      refine mw_eval (hr2 e) hlt (Or.inr rfl) (fun r2 u2 hne hu2 => ?_)
      obtain ⟨d1, d2, d3, d4, d5, d6, d7, d8, d9, d10, d11, d12, d13, d14⟩ := u2
      exact br_f hne (nm_r (nI_1 k) (ih (k + 1) (mk ||| 2 ^ k) _ d1 d2 d3 d4 d5 d6 d7 d8 d9 d10 d11 d12 d13 d14 (by omega) (by omega) (vz_S_or hm (vz_S_one (by omega))) hu2))
    by_cases hM : M k
    · exact br_f (fun z => hb.mp z hM) (br_t (hr1 hM) h597)
    · exact br_t (hb.mpr hM) h597
theorem mv_315 (hL : L ≤ 260) : ∀ (f i mk : Nat) (M : Nat → Prop) (c1 c2 c3 c4 : Int32) (c5 c6 c7 c8 c9 c10 c11 c12 c13 c14 : Nat → Int32), L + 3 ≤ 3 * f + i → i ≤ L + 2 → vz_S mk M → li_T 4 lz_A lz_Z M (c1, c2, c3, c4, c5, c6, c7, c8, c9, c10, c11, c12, c13, c14) → wL_law_315 (fun r => r = 1) L xs kc ks f (nI mk) (nI i) c1 c2 c3 c4 c5 c6 c7 c8 c9 c10 c11 c12 c13 c14 := by
  intro f
  induction f with
  | zero =>
    intro i mk M c1 c2 c3 c4 c5 c6 c7 c8 c9 c10 c11 c12 c13 c14 h1 h2
    omega
  | succ f ih =>
    intro i mk M c1 c2 c3 c4 c5 c6 c7 c8 c9 c10 c11 c12 c13 c14 h1 h2 hm h
    rw [wL_law_315]
    refine pk_le L i (fun _ => rfl) (fun hlt => pk_le 600 i (fun _ => rfl) (fun _ => ?_))
    have h549 : ∀ (x5 x6 : Int32) (u : St1), li_T 4 lz_A lz_Z M u → wL_law_549 (fun r => r = 1) L xs (wL_law_315 (fun r => r = 1) L xs kc ks f) (nI mk) (nI i) x5 x6 kc ks u.1 u.2.1 u.2.2.1 u.2.2.2.1 u.2.2.2.2.1 u.2.2.2.2.2.1 u.2.2.2.2.2.2.1 u.2.2.2.2.2.2.2.1 u.2.2.2.2.2.2.2.2.1 u.2.2.2.2.2.2.2.2.2.1 u.2.2.2.2.2.2.2.2.2.2.1 u.2.2.2.2.2.2.2.2.2.2.2.1 u.2.2.2.2.2.2.2.2.2.2.2.2.1 u.2.2.2.2.2.2.2.2.2.2.2.2.2 := by
      intro x5 x6 u hu
      obtain ⟨d1, d2, d3, d4, d5, d6, d7, d8, d9, d10, d11, d12, d13, d14⟩ := u
      dsimp only
      unfold wL_law_549
      refine mv_setv hu (fun u hu => ?_) _ _
      obtain ⟨e1, e2, e3, e4, e5, e6, e7, e8, e9, e10, e11, e12, e13, e14⟩ := u
      refine ⟨9, mv_565 (fun mk2 M2 g1 g2 g3 g4 g5 g6 g7 g8 g9 g10 g11 g12 g13 g14 hm2 hu2 => ?_) 9 0 mk M e1 e2 e3 e4 e5 e6 e7 e8 e9 e10 e11 e12 e13 e14 (by omega) (by omega) hm hu⟩
      rw [show nI i + 3 = nI (i + 3) from nI_add i 3]
      exact ih (i + 3) mk2 M2 g1 g2 g3 g4 g5 g6 g7 g8 g9 g10 g11 g12 g13 g14 (by omega) (by omega) hm2 hu2
    have h370 : ∀ (x5 x6 : Int32), wL_law_370 (fun r => r = 1) L xs (wL_law_315 (fun r => r = 1) L xs kc ks f) (nI mk) (nI i) x5 x6 kc ks c1 c2 c3 c4 c5 c6 c7 c8 c9 c10 c11 c12 c13 c14 := by
      intro x5 x6
      unfold wL_law_370 wpL_nn
      refine ⟨by decide, mv_conj h (fun u hu => ?_) _⟩
      obtain ⟨d1, d2, d3, d4, d5, d6, d7, d8, d9, d10, d11, d12, d13, d14⟩ := u
      exact h549 x5 x6 _ hu
    have h430 : ∀ (x5 x6 : Int32), wL_law_430 (fun r => r = 1) L xs (wL_law_315 (fun r => r = 1) L xs kc ks f) (nI mk) (nI i) x5 x6 kc ks c1 c2 c3 c4 c5 c6 c7 c8 c9 c10 c11 c12 c13 c14 := by
      intro x5 x6
      unfold wL_law_430
      refine mv_var (fun r => mw_induct h (fun _ u hu => ?_) _) _
      obtain ⟨d1, d2, d3, d4, d5, d6, d7, d8, d9, d10, d11, d12, d13, d14⟩ := u
      refine mw_simp hu (fun _ u hu => ?_)
      obtain ⟨e1, e2, e3, e4, e5, e6, e7, e8, e9, e10, e11, e12, e13, e14⟩ := u
      refine mw_simp hu (fun _ u hu => ?_)
      obtain ⟨g1, g2, g3, g4, g5, g6, g7, g8, g9, g10, g11, g12, g13, g14⟩ := u
      refine mw_useHyp hu (fun _ u hu => ?_) _
      obtain ⟨j1, j2, j3, j4, j5, j6, j7, j8, j9, j10, j11, j12, j13, j14⟩ := u
      refine mw_useHyp hu (fun _ u hu => ?_) _
      obtain ⟨k1, k2, k3, k4, k5, k6, k7, k8, k9, k10, k11, k12, k13, k14⟩ := u
      exact h549 x5 x6 _ hu
    refine mv_cell (fun r0 => ?_) i (by omega) (by omega)
    unfold wpL_nn
    refine ⟨by decide, fun x4 _ => ?_⟩
    rw [nI_1 i, show nI i + 2 = nI (i + 2) from nI_add i 2]
    refine mv_cell (fun x5 => mv_cell (fun x6 => ?_) (i + 2) (by omega) (by omega)) (i + 1) (by omega) (by omega)
    refine ⟨fun _ => h370 x5 x6, fun _ => ⟨fun _ => h370 x5 x6, fun _ => ⟨fun _ => ?_, fun _ => ⟨fun _ => ?_, fun _ => ⟨fun _ => h430 x5 x6, fun _ => ⟨fun _ => h430 x5 x6, fun _ => ⟨fun _ => ?_, fun _ => ⟨fun _ => ?_, fun _ => ⟨fun _ => ?_, fun _ => ?_⟩⟩⟩⟩⟩⟩⟩⟩⟩
    · refine mv_var (fun r => mw_induct h (fun _ u hu => ?_) _) _
      obtain ⟨d1, d2, d3, d4, d5, d6, d7, d8, d9, d10, d11, d12, d13, d14⟩ := u
      exact h549 x5 x6 _ hu
    · refine mw_simp h (fun _ u hu => ?_)
      obtain ⟨d1, d2, d3, d4, d5, d6, d7, d8, d9, d10, d11, d12, d13, d14⟩ := u
      exact h549 x5 x6 _ hu
    · refine mw_useHyp h (fun _ u hu => ?_) _
      obtain ⟨d1, d2, d3, d4, d5, d6, d7, d8, d9, d10, d11, d12, d13, d14⟩ := u
      exact h549 x5 x6 _ hu
    · refine mw_useLemma h (fun _ u hu => ?_) _ _
      obtain ⟨d1, d2, d3, d4, d5, d6, d7, d8, d9, d10, d11, d12, d13, d14⟩ := u
      exact h549 x5 x6 _ hu
    · refine ⟨by decide, mv_gen h (fun u hu => ?_) _⟩
      obtain ⟨d1, d2, d3, d4, d5, d6, d7, d8, d9, d10, d11, d12, d13, d14⟩ := u
      exact h549 x5 x6 _ hu
    · refine mv_setv h (fun u hu => ?_) _ _
      obtain ⟨d1, d2, d3, d4, d5, d6, d7, d8, d9, d10, d11, d12, d13, d14⟩ := u
      exact h549 x5 x6 _ hu
end MG
