/-! 20: the reference: symbols, appending, copying, counting -/
section YA
variable {yn yq yg ya : Int32} {T L K bo bs be fa fr fe hr ft hyA vl ee wb : Nat → Int32} {m : Nat → List Nat} {n : Nat} {A : Nat → List Nat} {Z : Nat → Nat}
theorem yi_ix (s i : Nat) : nI s * 64 + nI i = nI (s * 64 + i) := by
  rw [show (64 : Int32) = nI 64 from rfl, pk_mul, nI_add]
theorem yp_c {post : Int32 → Prop} (hM : cm_M 64 89 T L m) {s i : Nat} (hs : s < 89) (hi : i < 2 ^ 31) (h : post (nI (tm_at (m s) i))) : wpY_c post (yn, yq, yg, ya, T, L, K, bo, bs, be, fa, fr, fe, hr, ft, hyA, vl, ee, wb) (nI s) (nI i) := by
  unfold wpY_c
  dsimp only
  have hle := cm_le hM hs
  refine br_f (nI_pos hi) ⟨vp_in_nI hs (by omega), ?_⟩
  rw [nI_clamp (n := s) (by omega), cm_len hM hs]
  refine pk_le (m s).length i (fun hge => ?_) (fun hlt => ?_)
  · rw [tm_at_ge hge] at h
    exact h
  · refine br_f (nI_ge (b := 64) (by omega) (by decide)) ?_
    rw [yi_ix, nI_clamp (by omega), cm_t hM hs hlt]
    exact ⟨vp_in_nI (by omega) (by omega), h⟩
theorem yp_cn {post : Int32 → Prop} {x y : Int32} (hi : y < 0) (h : post 0) : wpY_c post (yn, yq, yg, ya, T, L, K, bo, bs, be, fa, fr, fe, hr, ft, hyA, vl, ee, wb) x y := by
  unfold wpY_c
  dsimp only
  exact br_t hi h
theorem yp_put {post : SY → Prop} (hM : cm_M 64 89 T L m) {s c : Nat} (hs : s < 89) (hc : c < 256) (h : ∀ T' L', cm_M 64 89 T' L' (cm_set m s ((m s ++ [c]).take 64)) → post (yn, yq, yg, ya, T', L', K, bo, bs, be, fa, fr, fe, hr, ft, hyA, vl, ee, wb)) : wpY_put post (yn, yq, yg, ya, T, L, K, bo, bs, be, fa, fr, fe, hr, ft, hyA, vl, ee, wb) (nI s) (nI c) := by
  unfold wpY_put
  dsimp only
  have hl := cm_len hM hs
  have hle := cm_le hM hs
  rw [nI_clamp (n := s) (by omega), hl]
  refine ⟨vp_in_nI hs (by omega), pk_le 64 (m s).length (fun hge => ?_) (fun hlt => ?_)⟩
  · apply h
    rw [List.take_append_of_le_length hge, cm_tl hle, cm_set_self]
    exact hM
  · rw [yi_ix, nI_clamp (by omega), nI_1, xi_ch (by omega), xi_nar (by omega)]
    refine ⟨vp_in_nI hs (by omega), vp_in_nI (by omega) (by omega), nm_e ⟨vp_in_nI hs (by omega), vp_in_nI hs (by omega), nm_e ?_⟩⟩
    apply h
    rw [cm_tl (by rw [List.length_append, List.length_singleton]; omega)]
    exact cm_put hM hs rfl hlt hc
theorem yl_cr {post : SY → Prop} {d s b : Nat} (hd : d < 89) (hs : s < 89) (hsd : s ≠ d) (hb : b ≤ (m s).length) : ∀ (f i : Nat) (T L : Nat → Int32) (m' : Nat → List Nat), b < f + i → i ≤ b → m' s = m s → cm_M 64 89 T L m' →
    (∀ T' L', cm_M 64 89 T' L' (cm_set m' d ((m' d ++ ((m s).drop i).take (b - i)).take 64)) → post (yn, yq, yg, ya, T', L', K, bo, bs, be, fa, fr, fe, hr, ft, hyA, vl, ee, wb)) → wY_copyRange_3 post (nI s) (nI b) (nI d) f (nI i) yn yq yg ya T L K bo bs be fa fr fe hr ft hyA vl ee wb := by
  intro f
  induction f with
  | zero => intro i T L m' h1 h2; omega
  | succ f ih =>
    intro i T L m' h1 h2 hms hM h
    have hle := cm_le hM hd
    have hls := cm_le hM hs
    rw [hms] at hls
    rw [wY_copyRange_3]
    dsimp only
    refine pk_le b i (fun hge => ?_) (fun hlt => ?_)
    · apply h
      rw [show b - i = 0 by omega, List.take_zero, List.append_nil, cm_tl hle, cm_set_self]
      exact hM
    · have hbb := cm_b hM hs i
      refine yp_c hM hs (by omega) ?_
      refine yp_put hM hd hbb (fun T1 L1 hM1 => nm_r (nI_1 i) (ih (i + 1) T1 L1 _ (by omega) (by omega) ?_ hM1 ?_))
      · rw [cm_set_n hsd, hms]
      · intro T' L' hM'
        apply h
        rw [cm_set_s, cm_set_set, cm_tt, List.append_assoc, hms] at hM'
        rw [show ((m s).drop i).take (b - i) = tm_at (m s) i :: ((m s).drop (i + 1)).take (b - (i + 1)) by
          rw [tm_drop_cons (by omega), show b - i = (b - (i + 1)) + 1 by omega, List.take_succ_cons]]
        exact hM'
theorem yp_cr {post : SY → Prop} (hM : cm_M 64 89 T L m) {d s a b : Nat} (hd : d < 89) (hs : s < 89) (hsd : s ≠ d) (hb : b ≤ (m s).length) (hab : a ≤ b) (h : ∀ T' L', cm_M 64 89 T' L' (cm_set m d ((m d ++ ((m s).drop a).take (b - a)).take 64)) → post (yn, yq, yg, ya, T', L', K, bo, bs, be, fa, fr, fe, hr, ft, hyA, vl, ee, wb)) : wpY_copyRange post (yn, yq, yg, ya, T, L, K, bo, bs, be, fa, fr, fe, hr, ft, hyA, vl, ee, wb) (nI s) (nI a) (nI b) (nI d) := by
  unfold wpY_copyRange
  dsimp only
  exact ⟨b + 1, yl_cr (m := m) hd hs hsd hb (b + 1) a T L m (by omega) hab rfl hM h⟩
theorem yp_copy {post : SY → Prop} (hM : cm_M 64 89 T L m) {d s : Nat} (hd : d < 89) (hs : s < 89) (hsd : s ≠ d) (h : ∀ T' L', cm_M 64 89 T' L' (cm_set m d (m s)) → post (yn, yq, yg, ya, T', L', K, bo, bs, be, fa, fr, fe, hr, ft, hyA, vl, ee, wb)) : wpY_copy post (yn, yq, yg, ya, T, L, K, bo, bs, be, fa, fr, fe, hr, ft, hyA, vl, ee, wb) (nI s) (nI d) := by
  unfold wpY_copy
  dsimp only
  have h0 := cm_nil hM hd
  have hl := cm_len h0 hs
  rw [cm_set_n hsd] at hl
  have hle := cm_le hM hs
  rw [nI_clamp (n := d) (by omega)]
  refine ⟨vp_in_nI hd (by omega), nm_e ⟨vp_in_nI hs (by omega), ?_⟩⟩
  rw [nI_clamp (n := s) (by omega), hl]
  refine yp_cr (a := 0) h0 hd hs hsd (by rw [cm_set_n hsd]; exact Nat.le_refl _) (Nat.zero_le _) ?_
  intro T' L' hM'
  apply h
  rw [cm_set_s, cm_set_set, List.nil_append, cm_set_n hsd, List.drop_zero, Nat.sub_zero, cm_tl (Nat.le_refl _), cm_tl hle] at hM'
  exact hM'
theorem yl_eqs {post : Int32 → Prop} (hM : cm_M 64 89 T L m) {a b : Nat} (ha : a < 89) (hb : b < 89) (hab : (m a).length = (m b).length) (h1 : m a = m b → post 1) (h0 : m a ≠ m b → post 0) : ∀ f i, (m a).length < f + i → i ≤ (m a).length → (∀ j, j < i → tm_at (m a) j = tm_at (m b) j) → wY_eqSlots_19 post (nI a) (nI b) yn yq yg ya T L K bo bs be fa fr fe hr ft hyA vl ee wb f (nI i) := by
  have hle := cm_le hM ha
  intro f
  induction f with
  | zero => intro i a b; omega
  | succ f ih =>
    intro i a1 b1 hj
    rw [wY_eqSlots_19]
    dsimp only
    rw [nI_clamp (n := a) (by omega), cm_len hM ha]
    refine ⟨vp_in_nI ha (by omega), pk_le (m a).length i (fun hge => h1 (tm_ext hab (fun j hj2 => hj j (by omega)))) (fun hlt => ?_)⟩
    have d1 := cm_b hM ha i
    have d2 := cm_b hM hb i
    refine yp_c hM ha (by omega) ?_
    refine yp_c hM hb (by omega) ?_
    refine pk_eq (tm_at (m a) i) (tm_at (m b) i) (fun e => ?_) (fun e => h0 (fun z => e (by rw [z])))
    refine nm_r (nI_1 i) (ih (i + 1) (by omega) (by omega) ?_)
    intro j hj2
    by_cases q : j = i
    · rw [q]; exact e
    · exact hj j (by omega)
theorem yp_eqs {post : Int32 → Prop} (hM : cm_M 64 89 T L m) {a b : Nat} (ha : a < 89) (hb : b < 89) (h1 : m a = m b → post 1) (h0 : m a ≠ m b → post 0) : wpY_eqSlots post (yn, yq, yg, ya, T, L, K, bo, bs, be, fa, fr, fe, hr, ft, hyA, vl, ee, wb) (nI a) (nI b) := by
  unfold wpY_eqSlots
  dsimp only
  have l1 := cm_le hM ha
  have l2 := cm_le hM hb
  rw [nI_clamp (n := a) (by omega), nI_clamp (n := b) (by omega), cm_len hM ha, cm_len hM hb]
  refine ⟨vp_in_nI ha (by omega), vp_in_nI hb (by omega), pk_eq (m a).length (m b).length (fun e => ?_) (fun e => h0 (fun z => e (by rw [z])))⟩
  exact ⟨_, yl_eqs hM ha hb e h1 h0 ((m a).length + 1) 0 (by omega) (Nat.zero_le _) (fun j hj => absurd hj (Nat.not_lt_zero _))⟩
theorem yl_same {post : Int32 → Prop} (hM : cm_M 64 89 T L m) {s p q z : Nat} (hs : s < 89) (hp : p + z ≤ (m s).length) (hq : q + z ≤ (m s).length) (h1 : (∀ j, j < z → tm_at (m s) (p + j) = tm_at (m s) (q + j)) → post 1) (h0 : ∀ j, j < z → tm_at (m s) (p + j) ≠ tm_at (m s) (q + j) → post 0) :
    ∀ f i, z < f + i → i ≤ z → (∀ j, j < i → tm_at (m s) (p + j) = tm_at (m s) (q + j)) → wY_same_16 post (nI s) (nI p) (nI (p + z)) (nI q) yn yq yg ya T L K bo bs be fa fr fe hr ft hyA vl ee wb f (nI i) := by
  have hle := cm_le hM hs
  intro f
  induction f with
  | zero => intro i a b; omega
  | succ f ih =>
    intro i a b hj
    rw [wY_same_16]
    dsimp only
    rw [pk_sub (by omega), Nat.add_sub_cancel_left]
    refine pk_le z i (fun hge => h1 (fun j hj2 => hj j (by omega))) (fun hlt => ?_)
    have b1 := cm_b hM hs (p + i)
    have b2 := cm_b hM hs (q + i)
    rw [nI_add, nI_add]
    refine yp_c hM hs (by omega) ?_
    refine yp_c hM hs (by omega) ?_
    refine pk_eq (tm_at (m s) (p + i)) (tm_at (m s) (q + i)) (fun e => ?_) (fun e => h0 i hlt e)
    refine nm_r (nI_1 i) (ih (i + 1) (by omega) (by omega) ?_)
    intro j hj2
    by_cases q : j = i
    · rw [q]; exact e
    · exact hj j (by omega)
theorem yp_same {post : Int32 → Prop} {g : tm_G} (hM : cm_M 64 89 T L m) {s p q : Nat} (hs : s < 89) (hp : p < (m s).length) (hq : q < (m s).length) (h1 : tm_sub g (m s) p = tm_sub g (m s) q → post 1) (h0 : tm_sub g (m s) p ≠ tm_sub g (m s) q → post 0) : wpY_same post (yn, yq, yg, ya, T, L, K, bo, bs, be, fa, fr, fe, hr, ft, hyA, vl, ee, wb) (nI s) (nI p) (nI (tm_e g (m s) p)) (nI q) (nI (tm_e g (m s) q)) := by
  unfold wpY_same
  dsimp only
  have hle := cm_le hM hs
  have p1 := tm_e_gt g hp
  have p2 := tm_e_le g (Nat.le_of_lt hp)
  have q1 := tm_e_gt g hq
  have q2 := tm_e_le g (Nat.le_of_lt hq)
  have l1 := tm_sub_len g (Nat.le_of_lt hp)
  have l2 := tm_sub_len g (Nat.le_of_lt hq)
  rw [pk_sub (a := tm_e g (m s) p) (by omega), pk_sub (a := tm_e g (m s) q) (by omega)]
  refine pk_eq (tm_e g (m s) p - p) (tm_e g (m s) q - q) (fun e => ?_) (fun e => h0 ?_)
  · have hx := yl_same (post := post) (yn := yn) (yq := yq) (yg := yg) (ya := ya) (K := K) (bo := bo) (bs := bs) (be := be) (fa := fa) (fr := fr) (fe := fe) (hr := hr) (ft := ft) (hyA := hyA) (vl := vl) (ee := ee) (wb := wb) hM hs (p := p) (q := q) (z := tm_e g (m s) p - p) (by omega) (by omega) (fun hj => h1 ?_) (fun j hj hn => h0 ?_) (tm_e g (m s) p - p + 1) 0 (by omega) (Nat.zero_le _) (fun j hj => absurd hj (Nat.not_lt_zero _))
    · rw [show p + (tm_e g (m s) p - p) = tm_e g (m s) p by omega] at hx
      exact ⟨_, hx⟩
    · apply tm_ext (by omega)
      intro j hj2
      rw [tm_sub_at g (by omega), tm_sub_at g (by omega)]
      exact hj j (by omega)
    · intro z
      apply hn
      rw [← tm_sub_at g (w := m s) (q := p) (by omega), ← tm_sub_at g (w := m s) (q := q) (by omega), z]
  · intro z
    have := congrArg List.length z
    omega
theorem yl_cnt {post : Int32 → Prop} (hM : cm_M 64 89 T L m) {s a b c : Nat} (hs : s < 89) (hb : b ≤ (m s).length) (hc : c < 65536) (h : post (nI (List.count c (((m s).take b).drop a)))) :
    ∀ f i, b < f + i → a ≤ i → i ≤ b → wY_countIn_6 post (nI s) (nI b) (nI c) yn yq yg ya T L K bo bs be fa fr fe hr ft hyA vl ee wb f (nI (List.count c (((m s).take i).drop a))) (nI i) := by
  have hle := cm_le hM hs
  intro f
  induction f with
  | zero => intro i h1 h2 h3; omega
  | succ f ih =>
    intro i h1 h2 h3
    rw [wY_countIn_6]
    dsimp only
    refine pk_le b i (fun hge => ?_) (fun hlt => ?_)
    · have e : i = b := by omega
      subst e
      exact h
    · have hbb := cm_b hM hs i
      have hdt := xi_dt (w := m s) h2 (show i < (m s).length by omega)
      refine yp_c hM hs (by omega) ?_
      have hn := ih (i + 1) (by omega) (by omega) (by omega)
      rw [hdt, List.count_append] at hn
      refine pk_eq (tm_at (m s) i) c (fun e => ?_) (fun e => ?_)
      · rw [e, List.count_singleton_self] at hn
        exact nm_r (nI_1 _) (nm_r (nI_1 i) hn)
      · rw [List.count_eq_zero_of_not_mem (fun z => e (List.mem_singleton.mp z).symm), Nat.add_zero] at hn
        exact nm_r (nI_1 i) hn
theorem yp_cnt {post : Int32 → Prop} (hM : cm_M 64 89 T L m) {s a b c : Nat} (hs : s < 89) (hab : a ≤ b) (hb : b ≤ (m s).length) (hc : c < 65536) (h : post (nI (List.count c (((m s).take b).drop a)))) : wpY_countIn post (yn, yq, yg, ya, T, L, K, bo, bs, be, fa, fr, fe, hr, ft, hyA, vl, ee, wb) (nI s) (nI a) (nI b) (nI c) := by
  unfold wpY_countIn
  dsimp only
  have := yl_cnt (yn := yn) (yq := yq) (yg := yg) (ya := ya) (K := K) (bo := bo) (bs := bs) (be := be) (fa := fa) (fr := fr) (fe := fe) (hr := hr) (ft := ft) (hyA := hyA) (vl := vl) (ee := ee) (wb := wb) hM hs hb hc h (b + 1) a (by omega) (Nat.le_refl _) hab
  rw [List.drop_take_self, List.count_nil] at this
  exact ⟨_, this⟩
theorem yp_occ {post : Int32 → Prop} (hM : cm_M 64 89 T L m) {s c : Nat} (hs : s < 89) (hc : c < 65536) (h1 : c ∈ m s → post 1) (h0 : ¬ c ∈ m s → post 0) : wpY_occurs post (yn, yq, yg, ya, T, L, K, bo, bs, be, fa, fr, fe, hr, ft, hyA, vl, ee, wb) (nI s) (nI c) := by
  unfold wpY_occurs
  dsimp only
  have hle := cm_le hM hs
  rw [nI_clamp (n := s) (by omega), cm_len hM hs]
  refine ⟨vp_in_nI hs (by omega), ?_⟩
  refine yp_cnt (a := 0) hM hs (Nat.zero_le _) (Nat.le_refl _) hc ?_
  rw [cm_tl (Nat.le_refl _), List.drop_zero]
  have hcl : List.count c (m s) ≤ (m s).length := List.count_le_length
  refine pk_le (List.count c (m s)) 0 (fun z => h0 (fun hm => ?_)) (fun z => h1 (List.count_pos_iff.mp z))
  have := List.count_pos_iff.mpr hm
  omega
theorem yp_fun {post : Int32 → Prop} (hn : n ≤ 8) {c : Nat} (hc : c < 65536) (h1 : ∀ f, f < n → c = 70 + f → post (nI f)) (h0 : ¬ (70 ≤ c ∧ c < 70 + n) → post (-1)) : wpY_fun post (nI n, yq, yg, ya, T, L, K, bo, bs, be, fa, fr, fe, hr, ft, hyA, vl, ee, wb) (nI c) := by
  unfold wpY_fun
  dsimp only
  refine pk_lt c 70 (fun a => h0 (by omega)) (fun a => pk_lt 77 c (fun b => h0 (by omega)) (fun b => ?_))
  rw [show nI c - 70 = nI (c - 70) from pk_sub (b := 70) a]
  exact pk_le n (c - 70) (fun z => h0 (by omega)) (fun z => h1 (c - 70) z (by omega))
theorem yp_vnum {post : Int32 → Prop} {c : Nat} (hc : c < 65536) (h1 : ∀ v, tm_vn c = some v → v < 16 → post (nI v)) (h0 : tm_vn c = none → post (-1)) : wpY_varNum post (yn, yq, yg, ya, T, L, K, bo, bs, be, fa, fr, fe, hr, ft, hyA, vl, ee, wb) (nI c) := by
  have := xp_vnum hc h1 h0
  unfold wpX_variableNumber wX_variableNumber_17 at this
  unfold wpY_varNum wY_varNum_17
  exact this
theorem yp_vch {post : Int32 → Prop} {v : Nat} (hv : v < 16) (h : post (nI (tm_vc v))) : wpY_varChar post (yn, yq, yg, ya, T, L, K, bo, bs, be, fa, fr, fe, hr, ft, hyA, vl, ee, wb) (nI v) := by
  unfold wpY_varChar
  dsimp only
  unfold tm_vc at h
  refine pk_le 8 v (fun a => ?_) (fun a => ?_)
  · rw [if_neg (by omega)] at h
    rw [show (112 : Int32) + nI v = nI (112 + v) from nI_add 112 v, show nI (112 + v) - 8 = nI (112 + v - 8) from pk_sub (b := 8) (by omega), show 112 + v - 8 = 104 + v by omega]
    exact h
  · rw [if_pos (by omega)] at h
    rw [show (97 : Int32) + nI v = nI (97 + v) from nI_add 97 v]
    exact h
def yr_H (R : Nat → List Nat) (hr : Nat → Int32) : Prop := ∀ f k, f < 8 → k < 2 → hr (2 * f + k) = if R (4 * f + 2 * k) = [] then 0 else 1
theorem yp_cpl {post : Int32 → Prop} {R : Nat → List Nat} (hH : yr_H R hr) {f : Nat} (hf : f < 8) (h1 : tm_cp R (70 + f) → post 1) (h0 : ¬ tm_cp R (70 + f) → post 0) : wpY_complete post (yn, yq, yg, ya, T, L, K, bo, bs, be, fa, fr, fe, hr, ft, hyA, vl, ee, wb) (nI f) := by
  unfold wpY_complete
  dsimp only
  have a0 := hH f 0 hf (by omega)
  have a1 := hH f 1 hf (by omega)
  unfold tm_cp at h1 h0
  rw [show 70 + f - 70 = f by omega] at h1 h0
  rw [show (2 : Int32) * nI f = nI (2 * f + 0) from pk_mul 2 f, nI_1, nI_clamp (n := 2 * f + 0) (by omega), nI_clamp (n := 2 * f + 0 + 1) (by omega)]
  rw [show hr (2 * f + 0 + 1) = hr (2 * f + 1) from rfl, a0, a1]
  refine ⟨vp_in_nI (by omega) (by omega), ?_⟩
  by_cases e0 : R (4 * f + 2 * 0) = []
  · rw [if_pos e0]
    exact br_t rfl (h0 (fun z => z.1 e0))
  · rw [if_neg e0]
    refine br_f (by decide) ⟨vp_in_nI (by omega) (by omega), ?_⟩
    by_cases e1 : R (4 * f + 2 * 1) = []
    · rw [if_pos e1]
      exact br_t rfl (h0 (fun z => z.2 e1))
    · rw [if_neg e1]
      exact br_f (by decide) (h1 ⟨e0, e1⟩)
theorem yp_ssort {post : Int32 → Prop} (hS : tm_SG n A Z) (hg : sg_Y n A Z fa fr fe) {c : Nat} (hc : c < 65536) (h1 : ∀ a s, tm_sg n A Z c = some (a, s) → post (nI s)) (h0 : tm_sg n A Z c = none → post (-1)) : wpY_symSort post (nI n, yq, yg, ya, T, L, K, bo, bs, be, fa, fr, fe, hr, ft, hyA, vl, ee, wb) (nI c) := by
  unfold wpY_symSort
  dsimp only
  have hn := hS.1
  refine pk_eq c 90 (fun e => h1 [] 0 (by rw [e]; rfl)) (fun e1 => pk_eq c 83 (fun e => h1 [0] 0 (by rw [e]; rfl)) (fun e2 => pk_eq c 78 (fun e => h1 [] 1 (by rw [e]; rfl)) (fun e3 => pk_eq c 67 (fun e => h1 [0, 1] 1 (by rw [e]; rfl)) (fun e4 => ?_))))
  refine yp_vnum hc (fun v hv hv16 => ?_) (fun hv => ?_)
  · have hsv := tm_sg_V (n := n) (A := A) (Z := Z) hv
    refine br_f (nI_pos (by omega)) (pk_le 8 v (fun h8 => ?_) (fun h8 => ?_))
    · rw [if_neg (by omega)] at hsv
      exact h1 _ _ hsv
    · rw [if_pos h8] at hsv
      exact h1 _ _ hsv
  · refine br_t (by decide) ?_
    refine yp_fun hn hc (fun f hf e => ?_) (fun hno => br_t (by decide) (h0 ?_))
    · rw [nI_clamp (n := f) (by omega), (hg f hf).2.2]
      refine br_f (nI_pos (by omega)) ⟨vp_in_nI (by omega) (by omega), h1 (A f) (Z f) ?_⟩
      rw [e]
      exact tm_sg_f hf hn
    · refine tm_sg_o ⟨e1, e2, e3, e4⟩ ?_ ?_ hno
      · intro z
        unfold tm_vn at hv
        rw [if_pos z] at hv
        cases hv
      · intro z
        unfold tm_vn at hv
        rw [if_neg (by omega), if_pos z] at hv
        cases hv
theorem yp_ar {post : Int32 → Prop} (hS : tm_SG n A Z) (hg : sg_Y n A Z fa fr fe) {c : Nat} (hc : c < 65536) (h : post (nI (tm_ar (tm_sg n A Z) c))) : wpY_arity post (nI n, yq, yg, ya, T, L, K, bo, bs, be, fa, fr, fe, hr, ft, hyA, vl, ee, wb) (nI c) := by
  unfold wpY_arity
  dsimp only
  have hn := hS.1
  refine pk_eq c 83 (fun e => ?_) (fun e1 => pk_eq c 67 (fun e => ?_) (fun e2 => ?_))
  · subst e
    exact h
  · subst e
    exact h
  · refine yp_fun hn hc (fun f hf e => ?_) (fun hno => br_t (by decide) ?_)
    · rw [nI_clamp (n := f) (by omega), (hg f hf).1]
      rw [e, tm_ar_some (tm_sg_f hf hn)] at h
      exact br_f (nI_pos (by omega)) ⟨vp_in_nI (by omega) (by omega), h⟩
    · have e0 : tm_ar (tm_sg n A Z) c = 0 := by
        rcases tm_sg_c n A Z c hn with ⟨e, q⟩ | ⟨e, q⟩ | ⟨e, q⟩ | ⟨e, q⟩ | ⟨e, q⟩ | ⟨e, q⟩ | ⟨f, hf, e, q⟩ | ⟨q, _⟩
        · exact tm_ar_some q
        · exact absurd e e1
        · exact tm_ar_some q
        · exact absurd e e2
        · exact tm_ar_some q
        · exact tm_ar_some q
        · omega
        · unfold tm_ar
          rw [q]
      rw [e0] at h
      exact h
theorem yp_as {post : Int32 → Prop} (hS : tm_SG n A Z) (hg : sg_Y n A Z fa fr fe) {c j s : Nat} {a : List Nat} (hc : c < 65536) (hga : tm_sg n A Z c = some (a, s)) (hj : j < a.length) (h : post (nI (tm_at a j))) : wpY_argSort post (nI n, yq, yg, ya, T, L, K, bo, bs, be, fa, fr, fe, hr, ft, hyA, vl, ee, wb) (nI c) (nI j) := by
  unfold wpY_argSort
  dsimp only
  have hn := hS.1
  have hb := tm_sg_b hS hga
  have hnum := so_lt a hb.2.1
  have hpw : 2 ^ a.length ≤ 2 ^ 3 := Nat.pow_le_pow_right (by decide) hb.1
  refine pk_eq c 83 (fun e => ?_) (fun e1 => pk_eq c 67 (fun e => ?_) (fun e2 => ?_))
  · subst e
    rw [tm_sg_83] at hga
    obtain ⟨rfl, _⟩ := Prod.mk.inj (Option.some.inj hga)
    have : j = 0 := by
      rw [List.length_singleton] at hj
      omega
    subst this
    exact h
  · subst e
    rw [tm_sg_67] at hga
    obtain ⟨rfl, _⟩ := Prod.mk.inj (Option.some.inj hga)
    have : j = 0 ∨ j = 1 := by
      have : ([0, 1] : List Nat).length = 2 := rfl
      omega
    rcases this with rfl | rfl
    · exact br_t rfl h
    · exact br_f (by decide) h
  · refine yp_fun hn hc (fun f hf e => ?_) (fun hno => ?_)
    · rw [nI_clamp (n := f) (by omega), (hg f hf).2.1]
      rw [e, tm_sg_f hf hn] at hga
      obtain ⟨rfl, _⟩ := Prod.mk.inj (Option.some.inj hga)
      refine br_f (nI_pos (by omega)) ⟨vp_in_nI (by omega) (by omega), ?_⟩
      rw [vb_bit (by omega) (by omega), so_bit_at hb.2.1 hj]
      exact h
    · exfalso
      rcases tm_sg_c n A Z c hn with ⟨e, q⟩ | ⟨e, q⟩ | ⟨e, q⟩ | ⟨e, q⟩ | ⟨e, q⟩ | ⟨e, q⟩ | ⟨f, hf, e, q⟩ | ⟨q, _⟩
      · rw [hga] at q
        rw [(Prod.mk.inj (Option.some.inj q)).1] at hj
        exact absurd hj (Nat.not_lt_zero _)
      · exact e1 e
      · rw [hga] at q
        rw [(Prod.mk.inj (Option.some.inj q)).1] at hj
        exact absurd hj (Nat.not_lt_zero _)
      · exact e2 e
      · rw [hga] at q
        rw [(Prod.mk.inj (Option.some.inj q)).1] at hj
        exact absurd hj (Nat.not_lt_zero _)
      · rw [hga] at q
        rw [(Prod.mk.inj (Option.some.inj q)).1] at hj
        exact absurd hj (Nat.not_lt_zero _)
      · omega
      · rw [hga] at q
        cases q
end YA
