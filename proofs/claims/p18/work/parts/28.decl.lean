/-! 28: declare, the constructor -/
theorem rd_ne {n : Nat} {A A' : Nat → List Nat} {Z Z' : Nat → Nat} (hn : n + 1 ≤ 8) (hA : ∀ f, f < n → A' f = A f ∧ Z' f = Z f) {c : Nat} (hc : c ≠ 70 + n) : tm_sg (n + 1) A' Z' c = tm_sg n A Z c := by
  cases e : tm_sg n A Z c with
  | some p => exact tm_sg_mono (Nat.le_succ n) hn hA c p e
  | none =>
    rcases tm_sg_c (n + 1) A' Z' c hn with ⟨z, w⟩ | ⟨z, w⟩ | ⟨z, w⟩ | ⟨z, w⟩ | ⟨z, w⟩ | ⟨z, w⟩ | ⟨f, hf, z, w⟩ | ⟨w, _⟩
    · rw [z] at e; cases e
    · rw [z] at e; cases e
    · rw [z] at e; cases e
    · rw [z] at e; cases e
    · rw [tm_sg_n z] at e; cases e
    · rw [tm_sg_l z] at e; cases e
    · rw [z, tm_sg_f (show f < n by omega) (by omega)] at e
      cases e
    · exact w
theorem rd_mask : ∀ a, a < 4 → (((1 : Int32) <<< (nI a &&& 31)) - 1).toBitVec.toNat = 2 ^ a - 1 := by decide +kernel
section ME
variable {M : Nat → Prop} {u : St1} {post : Int32 → St1 → Prop} {n a z : Nat} {A : Nat → List Nat} {Z : Nat → Nat}
theorem mw_declare (h : li_S n A Z M (fun m => ∀ s, s < 81 → m s = []) u) (hn : n < 8) (hS2 : tm_SG (n + 1) A Z) (v2 : Int32) (ha1 : 1 ≤ a) (ha3 : a ≤ 3) (hz : z < 2) (hAn : A n = so_bits a v2.toBitVec.toNat) (hZn : Z n = z) (hp : ∀ r u, li_S (n + 1) A Z M (fun m => ∀ s, s < 81 → m s = []) u → post r u) : wpX_declare post u (nI a) v2 (nI z) := by
  obtain ⟨q, ng, hy, pr, val, e2, act, m, T, L, ay, gs, so, E, B, pv, vl, el, rfl, hpr, hC, hI⟩ := h
  obtain ⟨hM, hW, hA, hg, hP, hv, hR, hV, hF⟩ := hI
  have hC' : ∀ s, s < 81 → m s = [] := hC
  have hgo : wX_declare_37 post (nI a) v2 (nI z) (nI n) (nI q) act (nI ng) T L ay gs so E B pv vl el := by
    unfold wX_declare_37 wpX_setSymbol
    have hmask : v2 &&& (((1 : Int32) <<< (nI a &&& 31)) - 1) = nI (v2.toBitVec.toNat % 2 ^ a) := pk_and v2 a (rd_mask a (by omega))
    rw [hmask, show (70 : Int32) + nI n = nI (70 + n) from nI_add 70 n, xi_ch (show 70 + n < 65536 by omega)]
    refine nm_e ?_
    dsimp only
    rw [nI_clamp (n := 70 + n) (by omega), nI_1 n]
    have hin : vp_in (nI (70 + n)) 256 := vp_in_nI (by omega) (by omega)
    refine ⟨hin, nm_e ⟨hin, nm_e ⟨hin, nm_e (nm_e ?_)⟩⟩⟩
    refine hp _ _ (li_mkC hpr hC ⟨hM, iv_W_decl hS2 (fun _ _ => ⟨rfl, rfl⟩) hW, hA, ?_, hP, hv, ?_, ?_, ?_⟩)
    · intro c hc
      by_cases q1 : c = 70 + n
      · subst q1
        have hsg := tm_sg_f (n := n + 1) (A := A) (Z := Z) (f := n) (by omega) (by omega)
        refine ⟨fun a2 s2 h2 => ?_, fun h2 => ?_⟩
        · rw [hsg] at h2
          obtain ⟨rfl, rfl⟩ := Prod.mk.inj (Option.some.inj h2)
          rw [mm_us, mm_us, mm_us, hAn, hZn, so_bits_len, so_bits_num]
          exact ⟨rfl, rfl, rfl⟩
        · rw [hsg] at h2
          cases h2
      · rw [rd_ne (by omega) (fun _ _ => ⟨rfl, rfl⟩) q1, mm_un q1, mm_un q1, mm_un q1]
        exact hg c hc
    · intro f k hf hk hne
      exact absurd (hC' (17 + (4 * f + 2 * k)) (by omega)) hne
    · intro k hk _
      rw [hC' (1 + 2 * k) (by omega), hC' (1 + 2 * k + 1) (by omega)]
      exact fun _ => rfl
    · intro k hk _ _
      rw [hC' (1 + 2 * k) (by omega), hC' (1 + 2 * k + 1) (by omega)]
      exact fun _ => rfl
  unfold wpX_declare
  dsimp only
  have a8 : nI n < 8 := nI_lt (b := 8) hn (by decide)
  have h1 : ¬ nI a < 1 := nI_nlt (b := 1) ha1 (by omega)
  have h3 : nI a ≤ 3 := nI_le (b := 3) ha3 (by decide)
  refine br_t a8 (br_f h1 (br_t h3 ?_))
  by_cases z0 : z = 0
  · exact br_t (by rw [z0]; rfl) hgo
  · have z1 : z = 1 := by omega
    exact br_f (by rw [z1]; decide) (br_t (by rw [z1]; rfl) hgo)
end ME
/-! the constructor -/
def ig_g (k : Nat) : tm_G := fun c => match tm_vn c with
  | some v => if v < k then tm_sg 0 lz_A lz_Z c else none
  | none => tm_sg 0 lz_A lz_Z c
theorem ig_v {k c v : Nat} (h : tm_vn c = some v) : ig_g k c = if v < k then some ([], if v < 8 then 0 else 1) else none := by
  unfold ig_g
  rw [h]
  dsimp only
  rw [tm_sg_V h]
theorem ig_n {k c : Nat} (h : tm_vn c = none) : ig_g k c = tm_sg 0 lz_A lz_Z c := by
  unfold ig_g
  rw [h]
theorem ig_16 (c : Nat) : ig_g 16 c = tm_sg 0 lz_A lz_Z c := by
  cases h : tm_vn c with
  | none => exact ig_n h
  | some v => rw [ig_v h, if_pos (tm_vn_ch h).2, tm_sg_V h]
theorem ig_step {k : Nat} {ay gs so : Nat → Int32} (hk : k < 16) (h : sg_X (ig_g k) ay gs so) : sg_X (ig_g (k + 1)) (upd ay (tm_vc k) 0) (upd gs (tm_vc k) 0) (upd so (tm_vc k) (if k < 8 then 0 else 1)) := by
  intro c hc
  by_cases e : c = tm_vc k
  · subst e
    rw [ig_v (tm_vn_vc hk), if_pos (by omega), mm_us, mm_us, mm_us]
    refine ⟨fun a s z => ?_, fun z => nomatch z⟩
    obtain ⟨rfl, rfl⟩ := Prod.mk.inj (Option.some.inj z)
    refine ⟨rfl, rfl, ?_⟩
    split <;> rfl
  · rw [mm_un e, mm_un e, mm_un e]
    have : ig_g (k + 1) c = ig_g k c := by
      cases h : tm_vn c with
      | none => rw [ig_n h, ig_n h]
      | some v =>
        rw [ig_v h, ig_v h]
        have hv : v ≠ k := by
          intro z
          apply e
          rw [(tm_vn_ch h).1, z]
        by_cases hlt : v < k
        · rw [if_pos hlt, if_pos (by omega)]
        · rw [if_neg hlt, if_neg (by omega)]
    rw [this]
    exact h c hc
theorem ig_0 {ay : Nat → Int32} (h : ∀ c, c < 256 → ay c = -1) : sg_X (ig_g 0) (upd (upd (upd (upd ay 90 0) 83 1) 78 0) 67 2) (upd (upd (upd (upd (fun _ => 0) 90 0) 83 0) 78 0) 67 2) (upd (upd (upd (upd (fun _ => 0) 90 0) 83 0) 78 1) 67 1) := by
  intro c hc
  by_cases e1 : c = 67
  · subst e1
    refine ⟨fun a s z => ?_, fun z => nomatch (show some (([0, 1], 1) : List Nat × Nat) = none from z)⟩
    obtain ⟨rfl, rfl⟩ := Prod.mk.inj (Option.some.inj (show some (([0, 1], 1) : List Nat × Nat) = some (a, s) from z))
    exact ⟨rfl, rfl, rfl⟩
  by_cases e2 : c = 78
  · subst e2
    refine ⟨fun a s z => ?_, fun z => nomatch (show some (([], 1) : List Nat × Nat) = none from z)⟩
    obtain ⟨rfl, rfl⟩ := Prod.mk.inj (Option.some.inj (show some (([], 1) : List Nat × Nat) = some (a, s) from z))
    exact ⟨rfl, rfl, rfl⟩
  by_cases e3 : c = 83
  · subst e3
    refine ⟨fun a s z => ?_, fun z => nomatch (show some (([0], 0) : List Nat × Nat) = none from z)⟩
    obtain ⟨rfl, rfl⟩ := Prod.mk.inj (Option.some.inj (show some (([0], 0) : List Nat × Nat) = some (a, s) from z))
    exact ⟨rfl, rfl, rfl⟩
  by_cases e4 : c = 90
  · subst e4
    refine ⟨fun a s z => ?_, fun z => nomatch (show some (([], 0) : List Nat × Nat) = none from z)⟩
    obtain ⟨rfl, rfl⟩ := Prod.mk.inj (Option.some.inj (show some (([], 0) : List Nat × Nat) = some (a, s) from z))
    exact ⟨rfl, rfl, rfl⟩
  have hnone : ig_g 0 c = none := by
    cases hv : tm_vn c with
    | some v => rw [ig_v hv, if_neg (Nat.not_lt_zero _)]
    | none =>
      rw [ig_n hv]
      refine tm_sg_o ⟨e4, e3, e2, e1⟩ ?_ ?_ (by omega)
      · intro z
        unfold tm_vn at hv
        rw [if_pos z] at hv
        cases hv
      · intro z
        unfold tm_vn at hv
        rw [if_neg (by omega), if_pos z] at hv
        cases hv
  refine ⟨fun a s z => ?_, fun _ => ?_⟩
  · rw [hnone] at z
    cases z
  · rw [mm_un e1, mm_un e2, mm_un e3, mm_un e4]
    exact h c hc
section IN
variable {xn xq xa xg : Int32} {T L ay gs so E B pv vl el : Nat → Int32}
theorem il_168 {post : St1 → Prop} {mc ms kc ks : Nat} (h : ∀ ay gs so, sg_X (ig_g 16) ay gs so → post (xn, xq, xa, xg, T, L, ay, gs, so, E, B, pv, vl, el)) : ∀ f v ay gs so, 16 < f + v → v ≤ 16 → sg_X (ig_g v) ay gs so → wX_init_168 post mc ms kc ks f (nI v) xn xq xa xg T L ay gs so E B pv vl el := by
  intro f
  induction f with
  | zero => intro v ay gs so a b; omega
  | succ f ih =>
    intro v ay gs so a b hs
    rw [wX_init_168]
    dsimp only
    refine pk_le 16 v (fun hge => ?_) (fun hlt => ?_)
    · have e : v = 16 := by omega
      subst e
      exact h ay gs so hs
    · have hc := tm_vc_lt hlt
      have hin : vp_in (nI (tm_vc v)) 256 := vp_in_nI hc (by omega)
      have hst := ig_step hlt hs
      refine xp_letter hlt ?_
      unfold wX_init_194 wpX_setSymbol
      dsimp only
      rw [nI_clamp (n := tm_vc v) (by omega), nI_1 v]
      refine pk_le 8 v (fun h8 => ?_) (fun h8 => ?_)
      · rw [if_neg (by omega)] at hst
        exact ⟨hin, nm_e ⟨hin, nm_e ⟨hin, nm_e (nm_e (ih (v + 1) _ _ _ (by omega) (by omega) hst))⟩⟩⟩
      · rw [if_pos h8] at hst
        exact ⟨hin, nm_e ⟨hin, nm_e ⟨hin, nm_e (nm_e (ih (v + 1) _ _ _ (by omega) (by omega) hst))⟩⟩⟩
theorem il_110 {post : St1 → Prop} {mc ms kc ks : Nat} (h : ∀ ay gs so, sg_X (ig_g 16) ay gs so → post (xn, xq, xa, xg, T, L, ay, gs, so, E, B, pv, vl, el)) : ∀ f i ay, 256 < f + i → i ≤ 256 → (∀ c, c < i → ay c = -1) → wX_init_110 post mc ms kc ks xn xq xa xg f (nI i) T L ay ((fun _ => 0)) ((fun _ => 0)) E B pv vl el := by
  intro f
  induction f with
  | zero => intro i ay a b; omega
  | succ f ih =>
    intro i ay a b hi
    rw [wX_init_110]
    dsimp only
    refine pk_le 256 i (fun hge => ?_) (fun hlt => ?_)
    · have h0 := ig_0 (ay := ay) (fun c hc => hi c (by omega))
      have i90 : vp_in (90 : Int32) 256 := pk_in 90 256 (by omega)
      have i83 : vp_in (83 : Int32) 256 := pk_in 83 256 (by omega)
      have i78 : vp_in (78 : Int32) 256 := pk_in 78 256 (by omega)
      have i67 : vp_in (67 : Int32) 256 := pk_in 67 256 (by omega)
      have c90 : (90 : Int32).toNatClampNeg = 90 := by decide
      have c83 : (83 : Int32).toNatClampNeg = 83 := by decide
      have c78 : (78 : Int32).toNatClampNeg = 78 := by decide
      have c67 : (67 : Int32).toNatClampNeg = 67 := by decide
      unfold wpX_setSymbol
      dsimp only
      rw [c90, c83, c78, c67]
      exact ⟨i90, nm_e ⟨i90, nm_e ⟨i90, nm_e ⟨i83, nm_e ⟨i83, nm_e ⟨i83, nm_e ⟨i78, nm_e ⟨i78, nm_e ⟨i78, nm_e ⟨i67, nm_e ⟨i67, nm_e ⟨i67, nm_e ⟨17, il_168 h 17 0 _ _ _ (by omega) (by omega) h0⟩⟩⟩⟩⟩⟩⟩⟩⟩⟩⟩⟩⟩
    · rw [nI_clamp (n := i) (by omega)]
      refine ⟨vp_in_nI hlt (by omega), nm_e (nm_r (nI_1 i) (ih (i + 1) _ (by omega) (by omega) (fun c hc => ?_)))⟩
      by_cases e : c = i
      · rw [e, mm_us]
      · rw [mm_un e]
        exact hi c (by omega)
end IN
theorem lz_SG {k : Nat} (h : k ≤ 4) : tm_SG k lz_A lz_Z := by
  refine ⟨by omega, fun f hf => ?_⟩
  have b0 : so_B [] := fun x hx => nomatch hx
  have hc : f = 0 ∨ f = 1 ∨ f = 2 ∨ f = 3 := by omega
  rcases hc with e | e | e | e <;> subst e
  · exact ⟨by decide, by decide, so_B_mk (by decide) (so_B_mk (by decide) b0), by decide⟩
  · exact ⟨by decide, by decide, so_B_mk (by decide) (so_B_mk (by decide) b0), by decide⟩
  · exact ⟨by decide, by decide, so_B_mk (by decide) b0, by decide⟩
  · exact ⟨by decide, by decide, so_B_mk (by decide) b0, by decide⟩
theorem mw_init {post : St1 → Prop} {mc ms : Nat} (hmc : 10 ≤ mc) (hms : 5173 ≤ ms) (hp : ∀ u, li_S 0 lz_A lz_Z (fun _ => False) (fun m => ∀ s, s < 81 → m s = []) u → post u) : wpX_init post mc ms (0, 0, 0, 0) := by
  unfold wpX_init
  dsimp only
  refine ⟨by omega, by omega, by omega, by omega, by omega, by omega, by omega, by omega, by omega, by omega, by omega, by omega, by omega, by omega, by omega, by omega, by omega, by omega, by omega, by omega, 257, il_110 (fun ay gs so hs => hp _ ?_) 257 0 _ (by omega) (by omega) (fun c hc => absurd hc (Nat.not_lt_zero _))⟩
  have hempty : ∀ W N, mm_M W N (fun _ => 0) (fun _ => 0) (fun _ => []) := fun W N s hs => ⟨rfl, Nat.zero_le _, fun i hi => absurd hi (Nat.not_lt_zero _)⟩
  refine li_mkC (n := 0) (q := 0) (ng := 0) (A := lz_A) (Z := lz_Z) (hy := fun _ => false) (pr := fun _ => false) (val := fun _ => 0) (e2 := fun _ _ => 0) (m := fun _ => []) (fun k _ z => z.elim) (fun _ _ => rfl) ⟨hempty _ _, ⟨lz_SG (by omega), by omega, by omega, Nat.zero_le _, ⟨fun k hk => absurd hk (Nat.not_lt_zero _), fun _ _ _ => rfl⟩, ⟨fun f k _ _ z => absurd rfl z, fun f k _ _ => ⟨fun z => absurd rfl z, fun _ => rfl⟩, fun _ _ => Nat.zero_le _⟩, fun j hj => absurd hj (Nat.not_lt_zero _)⟩, Or.inl ⟨rfl, rfl⟩, ?_, fun k _ => ⟨rfl, fun _ => rfl⟩, fun v _ => ⟨rfl, Nat.zero_le _, fun _ => ⟨Nat.zero_le _, fun i hi => absurd hi (Nat.not_lt_zero _)⟩⟩, fun f k _ _ z => absurd rfl z, fun k _ z => (nomatch z), fun k hk z => absurd z.symm (xi_neg (by omega))⟩
  intro c hc
  have := hs c hc
  rw [ig_16] at this
  exact this
