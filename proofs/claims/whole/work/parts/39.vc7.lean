/-! 39: declare, setVar, the constructors -/
theorem rd_ne {n : Nat} {A A' : Nat → List Nat} {Z Z' : Nat → Nat} (hn : n + 1 ≤ 8) (hA : ∀ f, f < n → A' f = A f ∧ Z' f = Z f) {c : Nat} (hc : c ≠ 70 + n) : tm_sg (n + 1) A' Z' c = tm_sg n A Z c := by
  cases e : tm_sg n A Z c with
  | some p => exact tm_sg_mono (Nat.le_succ n) hn hA c p e
  | none =>
    rcases tm_sg_c (n + 1) A' Z' c hn with ⟨z, w⟩ | ⟨z, w⟩ | ⟨z, w⟩ | ⟨z, w⟩ | ⟨z, w⟩ | ⟨z, w⟩ | ⟨f, hf, z, w⟩ | ⟨w, _⟩
    · rw [z] at e; cases e
    · rw [z] at e; cases e
    · rw [z] at e; cases e
    · rw [z] at e; cases e
    · rw [tm_sg_n z] at e; cases e
    · rw [tm_sg_l z] at e; cases e
    · rw [z, tm_sg_f (show f < n by omega) (by omega)] at e
      cases e
    · exact w
theorem rd_mask : ∀ a, a < 4 → (((1 : Int32) <<< (nI a &&& 31)) - 1).toBitVec.toNat = 2 ^ a - 1 := by decide +kernel
theorem i_vc_declare {k : Nat} {u : SX} {v : SY} (I : i_Rel k u v) (hk : k + 5 ≤ 2560) (v1 : Int32) (v2 : Int32) (v3 : Int32) : wpX_declare (fun r u' => wpY_declare (fun r' v' => r' = r ∧ i_Rel (k + 5) u' v') v v1 v2 v3) u v1 v2 v3 := by
  have I2 := I
  obtain ⟨n, q, ng, A, Z, hy, pr, val, e2, act, mX, mY, T, L, ay, gs, so, E, B, pv, vl, el, T', L', K, bo, bs, be, fa, fr, fe, hr, ft, hyA, vl', ee, wb, rfl, rfl, hI⟩ := I
  have hI0 := hI
  obtain ⟨hMX, hMY, hW, hL, hA, hsX, hsY, hP, hH, hHy, hvX, hvY⟩ := hI
  have hS := hW.1
  have hn8 := hS.1
  unfold wpX_declare wpY_declare
  dsimp only
  by_cases hn : n < 8
  · have a8 : nI n < 8 := nI_lt (b := 8) hn (by decide)
    refine br_t a8 ?_
    by_cases h1 : v1 < 1
    · exact br_t h1 (br_t a8 (br_t h1 ⟨rfl, I2⟩))
    · refine br_f h1 ?_
      by_cases h3 : v1 ≤ 3
      · have hge : ¬ v1 < 0 := fun z => h1 (Int32.lt_trans z (by decide))
        obtain ⟨a, ha, rfl⟩ := nI_of hge
        have ha1 : 1 ≤ a := by
          rw [show (1 : Int32) = nI 1 from rfl, nI_ltI ha (by omega)] at h1
          omega
        have ha3 : a ≤ 3 := by
          rw [show (3 : Int32) = nI 3 from rfl, nI_leI ha (by omega)] at h3
          omega
        refine br_t h3 ?_
        have hgo : ∀ z : Nat, z < 2 → v3 = nI z → (∀ Q, wY_declare_37 Q (nI a) v2 v3 (nI n) (nI q) (nI ng) act T' L' K bo bs be fa fr fe hr ft hyA vl' ee wb → wpY_declare Q (nI n, nI q, nI ng, act, T', L', K, bo, bs, be, fa, fr, fe, hr, ft, hyA, vl', ee, wb) (nI a) v2 v3) →
            wX_declare_37 (fun r u' => wpY_declare (fun r' v' => r' = r ∧ i_Rel (k + 5) u' v') (nI n, nI q, nI ng, act, T', L', K, bo, bs, be, fa, fr, fe, hr, ft, hyA, vl', ee, wb) (nI a) v2 v3) (nI a) v2 v3 (nI n) (nI q) act (nI ng) T L ay gs so E B pv vl el := by
          intro z hz ez hwrap
          subst ez
          unfold wX_declare_37 wpX_setSymbol
          have hmask : v2 &&& (((1 : Int32) <<< (nI a &&& 31)) - 1) = nI (v2.toBitVec.toNat % 2 ^ a) := pk_and v2 a (rd_mask a (by omega))
          rw [hmask, show (70 : Int32) + nI n = nI (70 + n) from nI_add 70 n, xi_ch (show 70 + n < 65536 by omega)]
          refine nm_e ?_
          dsimp only
          rw [nI_clamp (n := 70 + n) (by omega), nI_1 n]
          have hin : vp_in (nI (70 + n)) 256 := vp_in_nI (by omega) (by omega)
          refine ⟨hin, nm_e ⟨hin, nm_e ⟨hin, nm_e (nm_e ?_)⟩⟩⟩
          refine hwrap _ ?_
          unfold wY_declare_37
          rw [nI_clamp (n := n) (by omega), hmask, nI_1 n]
          have hin8 : vp_in (nI n) 8 := vp_in_nI hn (by omega)
          refine ⟨hin8, nm_e ⟨hin8, nm_e ⟨hin8, nm_e (nm_e ⟨rfl, ?_⟩)⟩⟩⟩
          generalize hA' : (fun f => if f = n then so_bits a v2.toBitVec.toNat else A f : Nat → List Nat) = A'
          generalize hZ' : (fun f => if f = n then z else Z f : Nat → Nat) = Z'
          have hAn : A' n = so_bits a v2.toBitVec.toNat := by rw [← hA']; exact if_pos rfl
          have hZn : Z' n = z := by rw [← hZ']; exact if_pos rfl
          have hAZ : ∀ f, f < n → A' f = A f ∧ Z' f = Z f := by
            intro f hf
            rw [← hA', ← hZ']
            exact ⟨if_neg (by omega), if_neg (by omega)⟩
          have hS2 : tm_SG (n + 1) A' Z' := by
            refine ⟨by omega, fun f hf => ?_⟩
            by_cases q1 : f = n
            · rw [q1, hAn, hZn, so_bits_len]
              exact ⟨ha1, ha3, so_bits_B _ _, hz⟩
            · rw [(hAZ f (by omega)).1, (hAZ f (by omega)).2]
              exact hS.2 f (by omega)
          refine re_mk (n := n + 1) (A := A') (Z := Z') ⟨hMX, hMY, iv_W_decl hS2 hAZ hW, hL, hA, ?_, ?_, hP, hH, hHy, hvX, hvY⟩
          · intro c hc
            by_cases q1 : c = 70 + n
            · subst q1
              have hsg := tm_sg_f (n := n + 1) (A := A') (Z := Z') (f := n) (by omega) (by omega)
              refine ⟨fun a2 s2 h2 => ?_, fun h2 => ?_⟩
              · rw [hsg] at h2
                obtain ⟨rfl, rfl⟩ := Prod.mk.inj (Option.some.inj h2)
                rw [cm_us, cm_us, cm_us, hAn, hZn, so_bits_len, so_bits_num]
                exact ⟨rfl, rfl, rfl⟩
              · rw [hsg] at h2
                cases h2
            · rw [rd_ne (by omega) hAZ q1, cm_un q1, cm_un q1, cm_un q1]
              exact hsX c hc
          · intro f hf
            by_cases q1 : f = n
            · rw [q1, cm_us, cm_us, cm_us, hAn, hZn, so_bits_len, so_bits_num]
              exact ⟨rfl, rfl, rfl⟩
            · rw [cm_un q1, cm_un q1, cm_un q1, (hAZ f (by omega)).1, (hAZ f (by omega)).2]
              exact hsY f (by omega)
        by_cases z0 : v3 = 0
        · exact br_t z0 (hgo 0 (by omega) z0 (fun Q hQ => by
            unfold wpY_declare
            dsimp only
            exact br_t a8 (br_f h1 (br_t h3 (br_t z0 hQ)))))
        · refine br_f z0 ?_
          by_cases z1 : v3 = 1
          · exact br_t z1 (hgo 1 (by omega) z1 (fun Q hQ => by
              unfold wpY_declare
              dsimp only
              exact br_t a8 (br_f h1 (br_t h3 (br_f z0 (br_t z1 hQ))))))
          · exact br_f z1 (br_t a8 (br_f h1 (br_t h3 (br_f z0 (br_f z1 ⟨rfl, I2⟩)))))
      · exact br_f h3 (br_t a8 (br_f h1 (br_f h3 ⟨rfl, I2⟩)))
  · have a8 : ¬ nI n < 8 := nI_nlt (b := 8) (by omega) (by omega)
    exact br_f a8 (br_f a8 ⟨rfl, I2⟩)
/-! the constructor -/
def ig_g (k : Nat) : tm_G := fun c => match tm_vn c with
  | some v => if v < k then tm_sg 0 (fun _ => []) (fun _ => 0) c else none
  | none => tm_sg 0 (fun _ => []) (fun _ => 0) c
theorem ig_v {k c v : Nat} (h : tm_vn c = some v) : ig_g k c = if v < k then some ([], if v < 8 then 0 else 1) else none := by
  unfold ig_g
  rw [h]
  dsimp only
  rw [tm_sg_V h]
theorem ig_n {k c : Nat} (h : tm_vn c = none) : ig_g k c = tm_sg 0 (fun _ => []) (fun _ => 0) c := by
  unfold ig_g
  rw [h]
theorem ig_16 (c : Nat) : ig_g 16 c = tm_sg 0 (fun _ => []) (fun _ => 0) c := by
  cases h : tm_vn c with
  | none => exact ig_n h
  | some v => rw [ig_v h, if_pos (tm_vn_ch h).2, tm_sg_V h]
theorem ig_step {k : Nat} {ay gs so : Nat → Int32} (hk : k < 16) (h : sg_X (ig_g k) ay gs so) : sg_X (ig_g (k + 1)) (upd ay (tm_vc k) 0) (upd gs (tm_vc k) 0) (upd so (tm_vc k) (if k < 8 then 0 else 1)) := by
  intro c hc
  by_cases e : c = tm_vc k
  · subst e
    rw [ig_v (tm_vn_vc hk), if_pos (by omega), cm_us, cm_us, cm_us]
    refine ⟨fun a s z => ?_, fun z => nomatch z⟩
    obtain ⟨rfl, rfl⟩ := Prod.mk.inj (Option.some.inj z)
    refine ⟨rfl, rfl, ?_⟩
    split <;> rfl
  · rw [cm_un e, cm_un e, cm_un e]
    have : ig_g (k + 1) c = ig_g k c := by
      cases h : tm_vn c with
      | none => rw [ig_n h, ig_n h]
      | some v =>
        rw [ig_v h, ig_v h]
        have hv : v ≠ k := by
          intro z
          apply e
          rw [(tm_vn_ch h).1, z]
        by_cases hlt : v < k
        · rw [if_pos hlt, if_pos (by omega)]
        · rw [if_neg hlt, if_neg (by omega)]
    rw [this]
    exact h c hc
theorem ig_0 {ay : Nat → Int32} (h : ∀ c, c < 256 → ay c = -1) : sg_X (ig_g 0) (upd (upd (upd (upd ay 90 0) 83 1) 78 0) 67 2) (upd (upd (upd (upd (fun _ => 0) 90 0) 83 0) 78 0) 67 2) (upd (upd (upd (upd (fun _ => 0) 90 0) 83 0) 78 1) 67 1) := by
  intro c hc
  by_cases e1 : c = 67
  · subst e1
    refine ⟨fun a s z => ?_, fun z => nomatch (show some (([0, 1], 1) : List Nat × Nat) = none from z)⟩
    obtain ⟨rfl, rfl⟩ := Prod.mk.inj (Option.some.inj (show some (([0, 1], 1) : List Nat × Nat) = some (a, s) from z))
    exact ⟨rfl, rfl, rfl⟩
  by_cases e2 : c = 78
  · subst e2
    refine ⟨fun a s z => ?_, fun z => nomatch (show some (([], 1) : List Nat × Nat) = none from z)⟩
    obtain ⟨rfl, rfl⟩ := Prod.mk.inj (Option.some.inj (show some (([], 1) : List Nat × Nat) = some (a, s) from z))
    exact ⟨rfl, rfl, rfl⟩
  by_cases e3 : c = 83
  · subst e3
    refine ⟨fun a s z => ?_, fun z => nomatch (show some (([0], 0) : List Nat × Nat) = none from z)⟩
    obtain ⟨rfl, rfl⟩ := Prod.mk.inj (Option.some.inj (show some (([0], 0) : List Nat × Nat) = some (a, s) from z))
    exact ⟨rfl, rfl, rfl⟩
  by_cases e4 : c = 90
  · subst e4
    refine ⟨fun a s z => ?_, fun z => nomatch (show some (([], 0) : List Nat × Nat) = none from z)⟩
    obtain ⟨rfl, rfl⟩ := Prod.mk.inj (Option.some.inj (show some (([], 0) : List Nat × Nat) = some (a, s) from z))
    exact ⟨rfl, rfl, rfl⟩
  have hnone : ig_g 0 c = none := by
    cases hv : tm_vn c with
    | some v => rw [ig_v hv, if_neg (Nat.not_lt_zero _)]
    | none =>
      rw [ig_n hv]
      refine tm_sg_o ⟨e4, e3, e2, e1⟩ ?_ ?_ (by omega)
      · intro z
        unfold tm_vn at hv
        rw [if_pos z] at hv
        cases hv
      · intro z
        unfold tm_vn at hv
        rw [if_neg (by omega), if_pos z] at hv
        cases hv
  refine ⟨fun a s z => ?_, fun _ => ?_⟩
  · rw [hnone] at z
    cases z
  · rw [cm_un e1, cm_un e2, cm_un e3, cm_un e4]
    exact h c hc
section IN
variable {xn xq xa xg : Int32} {T L ay gs so E B pv vl el : Nat → Int32}
theorem il_168 {post : SX → Prop} (h : ∀ ay gs so, sg_X (ig_g 16) ay gs so → post (xn, xq, xa, xg, T, L, ay, gs, so, E, B, pv, vl, el)) : ∀ f v ay gs so, 16 < f + v → v ≤ 16 → sg_X (ig_g v) ay gs so → wX_init_168 post f (nI v) xn xq xa xg T L ay gs so E B pv vl el := by
  intro f
  induction f with
  | zero => intro v ay gs so a b; omega
  | succ f ih =>
    intro v ay gs so a b hs
    rw [wX_init_168]
    dsimp only
    refine pk_le 16 v (fun hge => ?_) (fun hlt => ?_)
    · have e : v = 16 := by omega
      subst e
      exact h ay gs so hs
    · have hc := tm_vc_lt hlt
      have hin : vp_in (nI (tm_vc v)) 256 := vp_in_nI hc (by omega)
      have hst := ig_step hlt hs
      refine xp_letter hlt ?_
      unfold wX_init_194 wpX_setSymbol
      dsimp only
      rw [nI_clamp (n := tm_vc v) (by omega), nI_1 v]
      refine pk_le 8 v (fun h8 => ?_) (fun h8 => ?_)
      · rw [if_neg (by omega)] at hst
        exact ⟨hin, nm_e ⟨hin, nm_e ⟨hin, nm_e (nm_e (ih (v + 1) _ _ _ (by omega) (by omega) hst))⟩⟩⟩
      · rw [if_pos h8] at hst
        exact ⟨hin, nm_e ⟨hin, nm_e ⟨hin, nm_e (nm_e (ih (v + 1) _ _ _ (by omega) (by omega) hst))⟩⟩⟩
theorem il_110 {post : SX → Prop} (h : ∀ ay gs so, sg_X (ig_g 16) ay gs so → post (xn, xq, xa, xg, T, L, ay, gs, so, E, B, pv, vl, el)) : ∀ f i ay, 256 < f + i → i ≤ 256 → (∀ c, c < i → ay c = -1) → wX_init_110 post xn xq xa xg f (nI i) T L ay ((fun _ => 0)) ((fun _ => 0)) E B pv vl el := by
  intro f
  induction f with
  | zero => intro i ay a b; omega
  | succ f ih =>
    intro i ay a b hi
    rw [wX_init_110]
    dsimp only
    refine pk_le 256 i (fun hge => ?_) (fun hlt => ?_)
    · have h0 := ig_0 (ay := ay) (fun c hc => hi c (by omega))
      have i90 : vp_in (90 : Int32) 256 := pk_in 90 256 (by omega)
      have i83 : vp_in (83 : Int32) 256 := pk_in 83 256 (by omega)
      have i78 : vp_in (78 : Int32) 256 := pk_in 78 256 (by omega)
      have i67 : vp_in (67 : Int32) 256 := pk_in 67 256 (by omega)
      have c90 : (90 : Int32).toNatClampNeg = 90 := by decide
      have c83 : (83 : Int32).toNatClampNeg = 83 := by decide
      have c78 : (78 : Int32).toNatClampNeg = 78 := by decide
      have c67 : (67 : Int32).toNatClampNeg = 67 := by decide
      unfold wpX_setSymbol
      dsimp only
      rw [c90, c83, c78, c67]
      exact ⟨i90, nm_e ⟨i90, nm_e ⟨i90, nm_e ⟨i83, nm_e ⟨i83, nm_e ⟨i83, nm_e ⟨i78, nm_e ⟨i78, nm_e ⟨i78, nm_e ⟨i67, nm_e ⟨i67, nm_e ⟨i67, nm_e ⟨17, il_168 h 17 0 _ _ _ (by omega) (by omega) h0⟩⟩⟩⟩⟩⟩⟩⟩⟩⟩⟩⟩⟩
    · rw [nI_clamp (n := i) (by omega)]
      refine ⟨vp_in_nI hlt (by omega), nm_e (nm_r (nI_1 i) (ih (i + 1) _ (by omega) (by omega) (fun c hc => ?_)))⟩
      by_cases e : c = i
      · rw [e, cm_us]
      · rw [cm_un e]
        exact hi c (by omega)
end IN
theorem i_vc0 : wpX_init (fun u => wpY_init (fun v => i_Rel 0 u v)) := by
  unfold wpX_init
  refine ⟨257, il_110 (fun ay gs so hs => ?_) 257 0 _ (by omega) (by omega) (fun c hc => absurd hc (Nat.not_lt_zero _))⟩
  unfold wpY_init
  have hempty : ∀ W N, cm_M W N (fun _ => 0) (fun _ => 0) (fun _ => []) := fun W N s hs => ⟨rfl, Nat.zero_le _, fun i hi => absurd hi (Nat.not_lt_zero _)⟩
  refine re_mk (n := 0) (q := 0) (ng := 0) (A := fun _ => []) (Z := fun _ => 0) (hy := fun _ => false) (pr := fun _ => false) (val := fun _ => 0) (e2 := fun _ _ => 0) (mX := fun _ => []) (mY := fun _ => []) ⟨hempty _ _, hempty _ _, ⟨⟨by omega, fun f hf => absurd hf (Nat.not_lt_zero _)⟩, by omega, by omega, Nat.zero_le _, ⟨fun k hk => absurd hk (Nat.not_lt_zero _), fun _ _ _ => rfl⟩, ⟨fun f k _ _ z => absurd rfl z, fun f k _ _ => ⟨fun z => absurd rfl z, fun _ => rfl⟩, fun _ _ => Nat.zero_le _⟩, fun j hj => absurd hj (Nat.not_lt_zero _)⟩, ⟨rfl, fun _ _ => rfl, fun _ _ => rfl, fun j hj => absurd hj (Nat.not_lt_zero _)⟩, Or.inl ⟨rfl, rfl⟩, ?_, fun f hf => absurd hf (Nat.not_lt_zero _), fun k _ => ⟨rfl, fun _ => rfl, rfl⟩, fun f k _ _ => rfl, fun j hj => absurd hj (Nat.not_lt_zero _), fun v _ => ⟨rfl, Nat.zero_le _, fun _ => ⟨Nat.zero_le _, fun i hi => absurd hi (Nat.not_lt_zero _)⟩⟩, fun v _ => ⟨rfl, Nat.zero_le _, fun _ => ⟨Nat.zero_le _, fun i hi => absurd hi (Nat.not_lt_zero _)⟩⟩⟩
  intro c hc
  have := hs c hc
  rw [ig_16] at this
  exact this
