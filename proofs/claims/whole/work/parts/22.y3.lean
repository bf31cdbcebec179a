/-! 22: the reference: matching, filling in, REPLACE, NORMALIZE -/
section YC
variable {yn yq yg ya : Int32} {T L K bo bs be fa fr fe hr ft hyA vl ee wb : Nat → Int32} {m : Nat → List Nat} {n : Nat} {A : Nat → List Nat} {Z : Nat → Nat}
theorem yi_b1 : vp_nar .boolean 1 = 1 := by decide
theorem yi_b0 : vp_nar .boolean 0 = 0 := by decide
theorem yl_match {post : Int32 → SY → Prop} (hS : tm_SG n A Z) (hg : sg_Y n A Z fa fr fe) (hM : cm_M 64 89 T L m) {s f : Nat} {pat : Bool} {fx : Int32} {S : List Nat} (hs : s < 89) (hf : f < 89) (hP : tm_P (tm_sg n A Z) S (m s)) (hpx : (pat = true ∧ fx = 0) ∨ (pat = false ∧ ¬ fx = 0)) :
    ∀ k j q bo bs be b, (m f).length < k + j → j ≤ (m f).length → q ≤ (m s).length → rb_Y (tm_sg n A Z) (m s) bo bs be b → (∀ v q0, b v = some q0 → q0 < (m s).length) →
      (∀ r bo' bs' be', tm_mt (tm_sg n A Z) pat (m s) ((m f).drop j) q b = some r → rb_Y (tm_sg n A Z) (m s) bo' bs' be' r.2 → post (nI r.1) (nI n, yq, yg, ya, T, L, K, bo', bs', be', fa, fr, fe, hr, ft, hyA, vl, ee, wb)) → (∀ bo' bs' be', tm_mt (tm_sg n A Z) pat (m s) ((m f).drop j) q b = none → post (-1) (nI n, yq, yg, ya, T, L, K, bo', bs', be', fa, fr, fe, hr, ft, hyA, vl, ee, wb)) → wY_match_27 post (nI f) (nI s) fx (nI n) yq yg ya k (nI q) (nI j) T L K bo bs be fa fr fe hr ft hyA vl ee wb := by
  have hls := cm_le hM hs
  have hlf := cm_le hM hf
  intro k
  induction k with
  | zero => intro j q bo bs be b h1 h2; omega
  | succ k ih =>
    intro j q bo bs be b h1 h2 h3 hB hb hy hn
    rw [wY_match_27]
    dsimp only
    rw [nI_clamp (n := f) (by omega), cm_len hM hf]
    refine ⟨vp_in_nI hf (by omega), pk_le (m f).length j (fun hge => ?_) (fun hlt => ?_)⟩
    · refine hy (q, b) bo bs be ?_ hB
      rw [List.drop_eq_nil_of_le hge]
      exact tm_mt_nil
    · have hbp := cm_b hM hf j
      rw [tm_drop_cons hlt] at hy hn
      have hsym : ∀ (_ : pat = false ∨ tm_vn (tm_at (m f) j) = none), wY_match_62 post (wY_match_27 post (nI f) (nI s) fx (nI n) yq yg ya k) (nI f) (nI s) (nI q) fx (nI j) (nI (tm_at (m f) j)) (-1) (nI n) yq yg ya T L K bo bs be fa fr fe hr ft hyA vl ee wb := by
        intro hv
        unfold wY_match_62
        rw [nI_clamp (n := s) (by omega), cm_len hM hs]
        refine br_f (by decide) ⟨vp_in_nI hs (by omega), pk_le (m s).length q (fun hq => hn bo bs be (tm_mt_out hq)) (fun hq => ?_)⟩
        rw [tm_mt_sym hq hv] at hy hn
        have hbs := cm_b hM hs q
        refine yp_c hM hs (by omega) ?_
        refine pk_eq (tm_at (m s) q) (tm_at (m f) j) (fun e => ?_) (fun e => ?_)
        · rw [if_pos e] at hy hn
          exact nm_r (nI_1 q) (nm_r (nI_1 j) (ih (j + 1) (q + 1) bo bs be b (by omega) (by omega) (by omega) hB hb hy hn))
        · rw [if_neg e] at hn
          exact hn bo bs be rfl
      refine yp_c hM hf (by omega) ?_
      rcases hpx with ⟨hp1, hp2⟩ | ⟨hp1, hp2⟩
      · subst hp1
        refine br_t hp2 ?_
        refine yp_vnum (by omega) (fun v hv hv16 => ?_) (fun hv => hsym (Or.inr hv))
        unfold wY_match_62
        rw [nI_clamp (n := v) (by omega)]
        refine br_t (nI_pos' (by omega)) ?_
        by_cases hq : q < (m s).length
        · refine yp_end hS hg hM hs hP hq ?_
          have e1 := tm_e_gt (tm_sg n A Z) hq
          have e2 := tm_e_le (tm_sg n A Z) h3
          refine br_t (nI_pos' (by omega)) ⟨vp_in_nI hv16 (by omega), ?_⟩
          cases hbv : b v with
          | none =>
            rw [tm_mt_new hq hv hbv] at hy hn
            rw [(hB v hv16).1 hbv]
            refine br_t rfl ⟨vp_in_nI hv16 (by omega), nm_e ⟨vp_in_nI hv16 (by omega), nm_e ⟨vp_in_nI hv16 (by omega), nm_e (nm_r (nI_1 j) ?_)⟩⟩⟩
            rw [yi_b1]
            refine ih (j + 1) _ _ _ _ (tm_bu b v q) (by omega) (by omega) e2 (rb_Y_up hB) ?_ hy hn
            intro v2 q0 h
            unfold tm_bu at h
            by_cases e : v2 = v
            · rw [if_pos e] at h
              rw [← Option.some.inj h]
              exact hq
            · rw [if_neg e] at h
              exact hb v2 q0 h
          | some q0 =>
            have hq0 := hb v q0 hbv
            obtain ⟨r1, r2, r3⟩ := (hB v hv16).2 q0 hbv
            rw [r1, r2, r3]
            rw [tm_mt_old hq hv hbv] at hy hn
            refine br_f (by decide) ⟨vp_in_nI hv16 (by omega), vp_in_nI hv16 (by omega), ?_⟩
            refine yp_same hM hs hq0 hq (fun e => ?_) (fun e => ?_)
            · rw [if_pos e] at hy hn
              exact br_f (by decide) (nm_r (nI_1 j) (ih (j + 1) _ bo bs be b (by omega) (by omega) e2 hB hb hy hn))
            · rw [if_neg e] at hn
              exact br_t rfl (hn bo bs be rfl)
        · have hno := hn bo bs be (tm_mt_out (by omega))
          unfold wpY_end
          dsimp only
          refine ⟨1, ?_⟩
          rw [wY_end_5]
          dsimp only
          rw [nI_clamp (n := s) (by omega), cm_len hM hs]
          exact ⟨vp_in_nI hs (by omega), br_t (nI_le (by omega) (by omega)) (br_f (by decide) hno)⟩
      · exact br_f hp2 (hsym (Or.inl hp1))
theorem yl_match3 {post : Int32 → SY → Prop} {x1 x2 x3 x4 : Int32} (h : ∀ bo', (∀ v, v < 16 → bo' v = 0) → ∃ k, wY_match_27 post x1 x2 x4 yn yq yg ya k x3 0 T L K bo' bs be fa fr fe hr ft hyA vl ee wb) : ∀ k i bo, 16 < k + i → i ≤ 16 → (∀ v, v < i → bo v = 0) → wY_match_3 post x1 x2 x3 x4 yn yq yg ya k (nI i) T L K bo bs be fa fr fe hr ft hyA vl ee wb := by
  intro k
  induction k with
  | zero => intro i B a b; omega
  | succ k ih =>
    intro i B a b hB
    rw [wY_match_3]
    dsimp only
    refine pk_le 16 i (fun hge => ?_) (fun hlt => ?_)
    · exact h B (fun v hv => hB v (by omega))
    · rw [nI_clamp (n := i) (by omega), yi_b0]
      refine ⟨vp_in_nI hlt (by omega), nm_e (nm_r (nI_1 i) (ih (i + 1) _ (by omega) (by omega) ?_))⟩
      intro v hv
      by_cases e : v = i
      · rw [e, cm_us]
      · rw [cm_un e]
        exact hB v (by omega)
theorem yp_match {post : Int32 → SY → Prop} (hS : tm_SG n A Z) (hg : sg_Y n A Z fa fr fe) (hM : cm_M 64 89 T L m) {s f i : Nat} {pat : Bool} {fx : Int32} {S : List Nat} (hs : s < 89) (hf : f < 89) (hP : tm_P (tm_sg n A Z) S (m s)) (hpx : (pat = true ∧ fx = 0) ∨ (pat = false ∧ ¬ fx = 0)) (hi : i ≤ (m s).length)
    (hy : ∀ r bo' bs' be', tm_mt (tm_sg n A Z) pat (m s) (m f) i (fun _ => none) = some r → rb_Y (tm_sg n A Z) (m s) bo' bs' be' r.2 → post (nI r.1) (nI n, yq, yg, ya, T, L, K, bo', bs', be', fa, fr, fe, hr, ft, hyA, vl, ee, wb)) (hn : ∀ bo' bs' be', tm_mt (tm_sg n A Z) pat (m s) (m f) i (fun _ => none) = none → post (-1) (nI n, yq, yg, ya, T, L, K, bo', bs', be', fa, fr, fe, hr, ft, hyA, vl, ee, wb)) : wpY_match post (nI n, yq, yg, ya, T, L, K, bo, bs, be, fa, fr, fe, hr, ft, hyA, vl, ee, wb) (nI f) (nI s) (nI i) fx := by
  unfold wpY_match
  dsimp only
  refine ⟨17, yl_match3 ?_ 17 0 bo (by omega) (by omega) (fun v hv => absurd hv (Nat.not_lt_zero _))⟩
  intro B' hB'
  refine ⟨(m f).length + 1, yl_match hS hg hM hs hf hP hpx _ 0 i B' bs be (fun _ => none) (by omega) (Nat.zero_le _) hi (fun v hv => ⟨fun _ => hB' v hv, fun q0 z => nomatch z⟩) (fun _ _ z => nomatch z) ?_ ?_⟩
  · rw [List.drop_zero]
    exact hy
  · rw [List.drop_zero]
    exact hn
theorem yl_inst {post : SY → Prop} {d s p : Nat} {pat : Bool} {fx : Int32} (hd : d < 89) (hs : s < 89) (hp : p < 89) (hsd : s ≠ d) (hpd : p ≠ d) {b : Nat → Option Nat} (hB : rb_Y (tm_sg n A Z) (m s) bo bs be b) (hb : ∀ v q0, b v = some q0 → q0 < (m s).length) (hpx : (pat = true ∧ fx = 0) ∨ (pat = false ∧ ¬ fx = 0 ∧ b = fun _ => none)) :
    ∀ k j T L m', (m p).length < k + j → j ≤ (m p).length → m' s = m s → m' p = m p → cm_M 64 89 T L m' → (∀ T' L', cm_M 64 89 T' L' (cm_set m' d ((m' d ++ tm_in (tm_sg n A Z) (m s) b ((m p).drop j)).take 64)) → post (yn, yq, yg, ya, T', L', K, bo, bs, be, fa, fr, fe, hr, ft, hyA, vl, ee, wb)) → wY_inst_3 post (nI p) (nI s) (nI d) fx k (nI j) yn yq yg ya T L K bo bs be fa fr fe hr ft hyA vl ee wb := by
  intro k
  induction k with
  | zero => intro j T L m' a b; omega
  | succ k ih =>
    intro j T L m' h1 h2 hms hmp hM h
    have hlp := cm_le hM hp
    have hls := cm_le hM hs
    have hlt := cm_le hM hd
    rw [hmp] at hlp
    rw [hms] at hls
    rw [wY_inst_3]
    dsimp only
    rw [nI_clamp (n := p) (by omega), cm_len hM hp, hmp]
    refine ⟨vp_in_nI hp (by omega), pk_le (m p).length j (fun hge => ?_) (fun hlt2 => ?_)⟩
    · apply h
      rw [List.drop_eq_nil_of_le hge]
      show cm_M 64 89 T L (cm_set m' d ((m' d ++ []).take 64))
      rw [List.append_nil, cm_tl hlt, cm_set_self]
      exact hM
    · rw [tm_drop_cons hlt2] at h
      have hbb := cm_b hM hp j
      refine yp_c hM hp (by omega) ?_
      rw [hmp]
      rw [hmp] at hbb
      have hnext : ∀ (u : List Nat) T' L', tm_i1 (tm_sg n A Z) (m s) b (tm_at (m p) j) = u → cm_M 64 89 T' L' (cm_set m' d ((m' d ++ u).take 64)) → wY_inst_3 post (nI p) (nI s) (nI d) fx k (nI j + 1) yn yq yg ya T' L' K bo bs be fa fr fe hr ft hyA vl ee wb := by
        intro u T' L' hu hM'
        rw [nI_1]
        refine ih (j + 1) T' L' _ (by omega) (by omega) ?_ ?_ hM' ?_
        · rw [cm_set_n hsd, hms]
        · rw [cm_set_n hpd, hmp]
        · intro T2 L2 hM2
          apply h
          rw [cm_set_s, cm_set_set, cm_tt, List.append_assoc] at hM2
          show cm_M 64 89 T2 L2 (cm_set m' d ((m' d ++ (tm_i1 (tm_sg n A Z) (m s) b (tm_at (m p) j) ++ tm_in (tm_sg n A Z) (m s) b ((m p).drop (j + 1)))).take 64))
          rw [hu]
          exact hM2
      have happ : tm_i1 (tm_sg n A Z) (m s) b (tm_at (m p) j) = [tm_at (m p) j] → wY_inst_78 post (wY_inst_3 post (nI p) (nI s) (nI d) fx k) (nI p) (nI s) (nI d) fx (nI j) (nI (tm_at (m p) j)) yn yq yg ya T L K bo bs be fa fr fe hr ft hyA vl ee wb := by
        intro hu
        unfold wY_inst_78
        exact yp_put hM hd hbb (fun T' L' hM' => nm_e (hnext _ T' L' hu hM'))
      rcases hpx with ⟨hp1, hp2⟩ | ⟨hp1, hp2, hp3⟩
      · refine br_t hp2 ?_
        refine yp_vnum (by omega) (fun v hv hv16 => ?_) (fun hv => ?_)
        · unfold wY_inst_38
          rw [nI_clamp (n := v) (by omega)]
          refine br_f (nI_pos (by omega)) ⟨vp_in_nI hv16 (by omega), ?_⟩
          cases hbv : b v with
          | none =>
            rw [(hB v hv16).1 hbv]
            exact br_t rfl (happ (tm_i1_u hv hbv))
          | some q0 =>
            have hq0 := hb v q0 hbv
            obtain ⟨r1, r2, r3⟩ := (hB v hv16).2 q0 hbv
            rw [r1, r2, r3]
            have e1 := tm_e_gt (tm_sg n A Z) hq0
            have e2 := tm_e_le (tm_sg n A Z) (Nat.le_of_lt hq0)
            refine br_f (by decide) ⟨vp_in_nI hv16 (by omega), vp_in_nI hv16 (by omega), ?_⟩
            refine yp_cr hM hd hs hsd (by rw [hms]; exact e2) (by omega) (fun T' L' hM' => nm_e (hnext _ T' L' (tm_i1_b hv hbv) ?_))
            rw [hms, xi_sub] at hM'
            exact hM'
        · unfold wY_inst_38
          exact br_t (by decide) (happ (tm_i1_n hv))
      · refine br_f hp2 ?_
        unfold wY_inst_38
        refine br_t (by decide) (happ ?_)
        subst hp3
        cases hv : tm_vn (tm_at (m p) j) with
        | none => exact tm_i1_n hv
        | some v => exact tm_i1_u hv rfl
theorem yp_inst {post : SY → Prop} (hM : cm_M 64 89 T L m) {d s p : Nat} {pat : Bool} {fx : Int32} (hd : d < 89) (hs : s < 89) (hp : p < 89) (hsd : s ≠ d) (hpd : p ≠ d) {b : Nat → Option Nat} (hB : rb_Y (tm_sg n A Z) (m s) bo bs be b) (hb : ∀ v q0, b v = some q0 → q0 < (m s).length) (hpx : (pat = true ∧ fx = 0) ∨ (pat = false ∧ ¬ fx = 0 ∧ b = fun _ => none))
    (h : ∀ T' L', cm_M 64 89 T' L' (cm_set m d ((m d ++ tm_in (tm_sg n A Z) (m s) b (m p)).take 64)) → post (yn, yq, yg, ya, T', L', K, bo, bs, be, fa, fr, fe, hr, ft, hyA, vl, ee, wb)) : wpY_inst post (yn, yq, yg, ya, T, L, K, bo, bs, be, fa, fr, fe, hr, ft, hyA, vl, ee, wb) (nI p) (nI s) (nI d) fx := by
  unfold wpY_inst
  dsimp only
  refine ⟨(m p).length + 1, yl_inst (m := m) hd hs hp hsd hpd hB hb hpx _ 0 T L m (by omega) (Nat.zero_le _) rfl rfl hM ?_⟩
  rw [List.drop_zero]
  exact h
theorem yl_repl {post : Int32 → SY → Prop} (hS : tm_SG n A Z) (hg : sg_Y n A Z fa fr fe) {s t f p sf : Nat} {pat : Bool} {fx : Int32} {S : List Nat} (hs : s < 89) (ht : t < 89) (hf : f < 89) (hp : p < 89) (hst : s ≠ t) (hft : f ≠ t) (hpt : p ≠ t) (hP : tm_P (tm_sg n A Z) S (m s)) (hPf : tm_P (tm_sg n A Z) [sf] (m f)) (hpx : (pat = true ∧ fx = 0) ∨ (pat = false ∧ ¬ fx = 0)) (hl48 : (m s).length ≤ 48) :
    ∀ k i c hits acc T L bo bs be, (m s).length - i < k → i ≤ (m s).length → c ≤ i → hits ≤ i → cm_M 64 89 T L (cm_set m t (acc.take 64)) →
      (∀ T' L' bo' bs' be', cm_M 64 89 T' L' (cm_set m t ((acc ++ (tm_R (tm_sg n A Z) pat (m s) (m f) (m p) i).2).take 64)) → post (nI (hits + (tm_R (tm_sg n A Z) pat (m s) (m f) (m p) i).1)) (nI n, yq, yg, ya, T', L', K, bo', bs', be', fa, fr, fe, hr, ft, hyA, vl, ee, wb)) → wY_repl_16 post (nI s) (nI t) (nI f) (nI p) fx k (nI hits) (nI i) (nI c) (nI n) yq yg ya T L K bo bs be fa fr fe hr ft hyA vl ee wb := by
  have hV := (tm_sg_GS hS).1
  intro k
  induction k with
  | zero => intro i c hits acc T L bo bs be h; omega
  | succ k ih =>
    intro i c hits acc T L bo bs be h1 h2 hc hh hM h
    have es : cm_set m t (acc.take 64) s = m s := cm_set_n hst
    have ef : cm_set m t (acc.take 64) f = m f := cm_set_n hft
    have ep : cm_set m t (acc.take 64) p = m p := cm_set_n hpt
    rw [wY_repl_16]
    dsimp only
    refine br_f (nI_ge (b := 64) (by omega) (by decide)) ?_
    rw [nI_clamp (n := s) (by omega), cm_len hM hs, es]
    refine ⟨vp_in_nI hs (by omega), pk_le (m s).length i (fun hge => ?_) (fun hlt => ?_)⟩
    · rw [tm_R_out hge, List.append_nil] at h
      exact h T L bo bs be hM
    · refine yp_match (m := cm_set m t (acc.take 64)) (pat := pat) (S := S) hS hg hM hs hf (by rw [es]; exact hP) hpx (by rw [es]; omega) ?_ ?_
      · rw [es, ef]
        intro r bo' bs' be' hm hB'
        rw [tm_R_hit hlt hm] at h
        have hend := tm_mt_end hV _ _ _ _ _ hPf hm
        have e1 := tm_e_gt (tm_sg n A Z) hlt
        have e2 := tm_e_le (tm_sg n A Z) (Nat.le_of_lt hlt)
        have hr1 : r.1 = tm_e (tm_sg n A Z) (m s) i := hend
        rw [hr1]
        refine br_f (by rw [nI_leI (by omega) (by omega)]; omega) ?_
        refine yp_inst (m := cm_set m t (acc.take 64)) (pat := pat) hM ht hs hp hst hpt (by rw [es]; exact hB') (by rw [es]; exact tm_mt_pos0 hm) ?_ ?_
        · rcases hpx with q | ⟨q1, q2⟩
          · exact Or.inl q
          · refine Or.inr ⟨q1, q2, ?_⟩
            subst q1
            exact tm_mt_fix _ _ _ _ hm
        · intro T' L' hM'
          rw [cm_set_s, cm_set_set, cm_tt, es, ep] at hM'
          refine nm_r (nI_1 hits) (nm_r (nI_1 c) (ih (tm_e (tm_sg n A Z) (m s) i) (c + 1) (hits + 1) _ T' L' bo' bs' be' (by omega) (by omega) (by omega) (by omega) hM' ?_))
          intro T2 L2 bo2 bs2 be2 hM2
          rw [List.append_assoc] at hM2
          have := h T2 L2 bo2 bs2 be2 hM2
          rw [show hits + ((tm_R (tm_sg n A Z) pat (m s) (m f) (m p) (tm_e (tm_sg n A Z) (m s) i)).1 + 1) = hits + 1 + (tm_R (tm_sg n A Z) pat (m s) (m f) (m p) (tm_e (tm_sg n A Z) (m s) i)).1 by omega] at this
          exact this
      · rw [es, ef]
        intro bo' bs' be' hm
        rw [tm_R_miss hlt hm] at h
        have hbb := cm_b hM hs i
        refine br_t (Int32.le_trans (b := 0) (by decide) (nI_pos' (by omega))) ?_
        refine yp_c hM hs (by omega) ?_
        refine yp_put hM ht hbb (fun T' L' hM' => ?_)
        rw [cm_set_s, cm_set_set, cm_tt, es] at hM'
        refine nm_r (nI_1 i) (nm_r (nI_1 c) (ih (i + 1) (c + 1) hits _ T' L' bo' bs' be' (by omega) (by omega) (by omega) (by omega) hM' ?_))
        intro T2 L2 bo2 bs2 be2 hM2
        rw [List.append_assoc] at hM2
        exact h T2 L2 bo2 bs2 be2 hM2
theorem yp_repl {post : Int32 → SY → Prop} (hS : tm_SG n A Z) (hg : sg_Y n A Z fa fr fe) (hM : cm_M 64 89 T L m) {s t f p sf : Nat} {pat : Bool} {fx : Int32} {S : List Nat} (hs : s < 89) (ht : t < 89) (hf : f < 89) (hp : p < 89) (hst : s ≠ t) (hft : f ≠ t) (hpt : p ≠ t) (hP : tm_P (tm_sg n A Z) S (m s)) (hPf : tm_P (tm_sg n A Z) [sf] (m f)) (hpx : (pat = true ∧ fx = 0) ∨ (pat = false ∧ ¬ fx = 0)) (hl48 : (m s).length ≤ 48)
    (h : ∀ T' L' bo' bs' be', cm_M 64 89 T' L' (cm_set m t ((tm_R (tm_sg n A Z) pat (m s) (m f) (m p) 0).2.take 64)) → post (nI (tm_R (tm_sg n A Z) pat (m s) (m f) (m p) 0).1) (nI n, yq, yg, ya, T', L', K, bo', bs', be', fa, fr, fe, hr, ft, hyA, vl, ee, wb)) : wpY_repl post (nI n, yq, yg, ya, T, L, K, bo, bs, be, fa, fr, fe, hr, ft, hyA, vl, ee, wb) (nI s) (nI t) (nI f) (nI p) fx := by
  unfold wpY_repl
  dsimp only
  rw [nI_clamp (n := t) (by omega)]
  refine ⟨vp_in_nI ht (by omega), nm_e ⟨(m s).length + 1, yl_repl (m := m) hS hg hs ht hf hp hst hft hpt hP hPf hpx hl48 _ 0 0 0 [] T _ bo bs be (by omega) (Nat.zero_le _) (Nat.le_refl _) (Nat.le_refl _) (cm_nil hM ht) ?_⟩⟩
  intro T' L' bo' bs' be' hM'
  rw [Nat.zero_add]
  exact h T' L' bo' bs' be' hM'
end YC
