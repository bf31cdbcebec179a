/-! 31: the reference: feed -/
section YL
variable {yn yq yg ya : Int32} {T L K bo bs be fa fr fe hr ft hyA vl ee wb : Nat → Int32} {m : Nat → List Nat} {w0 w1 w2 w3 : Int32}
def yw_b (w0 w1 w2 w3 : Int32) (wb : Nat → Int32) : Prop := wb 0 = w0 ∧ wb 1 = w1 ∧ wb 2 = w2 ∧ wb 3 = w3
theorem yw_w (h : yw_b w0 w1 w2 w3 wb) {j : Nat} (hj : j < 16) : wb (j / 4) = fd_w w0 w1 w2 w3 j := by
  obtain ⟨h0, h1, h2, h3⟩ := h
  unfold fd_w
  by_cases a : j < 4
  · rw [if_pos a, show j / 4 = 0 by omega, h0]
  · rw [if_neg a]
    by_cases b : j < 8
    · rw [if_pos b, show j / 4 = 1 by omega, h1]
    · rw [if_neg b]
      by_cases c : j < 12
      · rw [if_pos c, show j / 4 = 2 by omega, h2]
      · rw [if_neg c, show j / 4 = 3 by omega, h3]
theorem yw_sh {j : Nat} (hj : j < 2 ^ 20) : nI j >>> ((2 : Int32) &&& 31) = nI (j / 4) := pk_shrN (by omega) _ 2 (by decide)
theorem yw_byte (h : yw_b w0 w1 w2 w3 wb) {j : Nat} (hj : j < 16) : ((wb (nI (j / 4)).toNatClampNeg) >>> ((8 * (nI j &&& 3)) &&& 31)) &&& 255 = nI (fd_b w0 w1 w2 w3 j) := by
  rw [nI_clamp (by omega), yw_w h hj, show nI j &&& 3 = nI (j % 2 ^ 2) from pk_andN (by omega) 2 (by decide), show (8 : Int32) * nI (j % 2 ^ 2) = nI (8 * (j % 2 ^ 2)) from pk_mul 8 _]
  exact fd_b_e w0 w1 w2 w3 j
set_option maxHeartbeats 200000 in
theorem yl_f113 {post : Int32 → SY → Prop} {l : List Nat} (hwb : yw_b w0 w1 w2 w3 wb) (hl : l = fd_l (fd_b w0 w1 w2 w3) 16 0) (h48 : (m 0).length + l.length ≤ 48) (h : ∀ T' L', cm_M 64 89 T' L' (cm_set m 0 (m 0 ++ l)) → post (nI ((m 0).length + l.length)) (yn, yq, yg, ya, T', L', K, bo, bs, be, fa, fr, fe, hr, ft, hyA, vl, ee, wb)) :
    ∀ f i T L, l.length < f + i → i ≤ l.length → cm_M 64 89 T L (cm_set m 0 (m 0 ++ l.take i)) → wY_feed_113 post (nI l.length) f (nI i) yn yq yg ya T L K bo bs be fa fr fe hr ft hyA vl ee wb := by
  have hl16 : l.length ≤ 16 := by
    rw [hl]
    exact fd_l_len 16 0
  intro f
  induction f with
  | zero => intro i T L a b; omega
  | succ f ih =>
    intro i T L a b hM
    rw [wY_feed_113]
    dsimp only
    refine pk_le l.length i (fun hge => ?_) (fun hlt => ?_)
    · rw [cm_tl hge] at hM
      have hl0 := cm_len hM (s := 0) (by omega)
      rw [cm_set_s, List.length_append] at hl0
      rw [hl0]
      exact h T L hM
    · have hb : tm_at l i = fd_b w0 w1 w2 w3 i := by
        rw [hl] at hlt ⊢
        rw [fd_l_at 16 0 i hlt, Nat.zero_add]
      rw [yw_sh (by omega), yw_byte hwb (by omega)]
      refine ⟨vp_in_nI (by omega) (by omega), nm_e ?_⟩
      refine yp_put (s := 0) hM (by omega) (fd_b_lt _ _ _ _ _) (fun T1 L1 hM1 => ?_)
      rw [cm_set_s, cm_set_set, List.append_assoc, ← hb, cm_snoc hlt, cm_tl (K := 64) (by rw [List.length_append, List.length_take]; omega)] at hM1
      exact nm_r (nI_1 i) (ih (i + 1) T1 L1 (by omega) (by omega) hM1)
set_option maxHeartbeats 200000 in
theorem yl_f38 {post : Int32 → SY → Prop} (hwb : yw_b w0 w1 w2 w3 wb) (h93 : wY_feed_93 post (nI (fd_l (fd_b w0 w1 w2 w3) 16 0).length) yn yq yg ya T L K bo bs be fa fr fe hr ft hyA vl ee wb) :
    ∀ f j, 17 < f + j → j ≤ 16 → (fd_l (fd_b w0 w1 w2 w3) 16 0).length = j + (fd_l (fd_b w0 w1 w2 w3) (16 - j) j).length → wY_feed_38 post yn yq yg ya T L K bo bs be fa fr fe hr ft hyA vl ee wb f (nI j) 0 (nI j) := by
  intro f
  induction f with
  | zero => intro j a b; omega
  | succ f ih =>
    intro j a b hj
    rw [wY_feed_38]
    dsimp only
    refine pk_le 16 j (fun hge => ?_) (fun hlt => ?_)
    · have e : j = 16 := by omega
      subst e
      rw [hj] at h93
      exact h93
    · refine br_t rfl ?_
      rw [yw_sh (by omega), yw_byte hwb hlt]
      have hbl := fd_b_lt w0 w1 w2 w3 j
      refine ⟨vp_in_nI (by omega) (by omega), nm_e (pk_eq (fd_b w0 w1 w2 w3 j) 0 (fun e => ?_) (fun e => ?_))⟩
      · rw [fd_l_0 e, List.length_nil, Nat.add_zero] at hj
        rw [hj] at h93
        refine nm_r (nI_1 j) ?_
        obtain ⟨f', rfl⟩ : ∃ f', f = f' + 1 := ⟨f - 1, by omega⟩
        rw [wY_feed_38]
        dsimp only
        exact br_c (fun _ => h93) (fun _ => br_f (by decide) h93)
      · refine nm_r (nI_1 j) (nm_r (nI_1 j) (ih (j + 1) (by omega) (by omega) ?_))
        rw [show 16 - j = (16 - (j + 1)) + 1 by omega, fd_l_s e, List.length_cons] at hj
        omega
set_option maxHeartbeats 200000 in
theorem yp_feed {post : Int32 → SY → Prop} (hM : cm_M 64 89 T L m) (h48 : (m 0).length ≤ 48)
    (h1 : (m 0).length + (fd_l (fd_b w0 w1 w2 w3) 16 0).length ≤ 48 → ∀ T' L' wb', cm_M 64 89 T' L' (cm_set m 0 (m 0 ++ fd_l (fd_b w0 w1 w2 w3) 16 0)) → post (nI ((m 0).length + (fd_l (fd_b w0 w1 w2 w3) 16 0).length)) (yn, yq, yg, ya, T', L', K, bo, bs, be, fa, fr, fe, hr, ft, hyA, vl, ee, wb'))
    (h0 : 48 < (m 0).length + (fd_l (fd_b w0 w1 w2 w3) 16 0).length → ∀ wb', post (-4) (yn, yq, yg, ya, T, L, K, bo, bs, be, fa, fr, fe, hr, ft, hyA, vl, ee, wb')) : wpY_feed post (yn, yq, yg, ya, T, L, K, bo, bs, be, fa, fr, fe, hr, ft, hyA, vl, ee, wb) w0 w1 w2 w3 := by
  unfold wpY_feed
  dsimp only
  have hl16 := fd_l_len (b := fd_b w0 w1 w2 w3) 16 0
  have hl0 := cm_len hM (s := 0) (by omega)
  have hwb : yw_b w0 w1 w2 w3 (upd (upd (upd (upd wb 0 w0) 1 w1) 2 w2) 3 w3) := ⟨rfl, rfl, rfl, rfl⟩
  refine nm_e (nm_e (nm_e (nm_e ⟨18, yl_f38 hwb ?_ 18 0 (by omega) (by omega) (by rw [Nat.zero_add, Nat.sub_zero])⟩)))
  unfold wY_feed_93
  rw [hl0, nI_add]
  refine pk_le ((m 0).length + (fd_l (fd_b w0 w1 w2 w3) 16 0).length) 48 (fun z => ?_) (fun z => h0 z _)
  refine ⟨_, yl_f113 (m := m) hwb rfl z (fun T' L' hM' => h1 z T' L' _ hM') ((fd_l (fd_b w0 w1 w2 w3) 16 0).length + 1) 0 T L (by omega) (Nat.zero_le _) ?_⟩
  rw [List.take_zero, List.append_nil, cm_set_self]
  exact hM
end YL
