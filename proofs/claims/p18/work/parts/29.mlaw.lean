/-! 29: the law's own methods -/
section MF
variable {n : Nat} {A : Nat → List Nat} {Z : Nat → Nat} {M : Nat → Prop} {u : St1} {post : St1 → Prop}
theorem mv_setv (h : li_T n A Z M u) (hp : ∀ u, li_T n A Z M u → post u) (p1 p2 : Int32) : wpL_setv post u p1 p2 := by
  obtain ⟨c1, c2, c3, c4, c5, c6, c7, c8, c9, c10, c11, c12, c13, c14⟩ := u
  unfold wpL_setv wpL_nn
  dsimp only
  refine ⟨fun _ => ⟨by decide, mw_setVar h (fun r u hu => ?_) _ _ _⟩, fun _ => mw_setVar h (fun r u hu => ?_) _ _ _⟩
  · obtain ⟨d1, d2, d3, d4, d5, d6, d7, d8, d9, d10, d11, d12, d13, d14⟩ := u
    exact hp _ hu
  · obtain ⟨d1, d2, d3, d4, d5, d6, d7, d8, d9, d10, d11, d12, d13, d14⟩ := u
    exact hp _ hu
theorem mv_conj (h : li_T n A Z M u) (hp : ∀ u, li_T n A Z M u → post u) (p1 : Int32) : wpL_conj post u p1 := by
  obtain ⟨c1, c2, c3, c4, c5, c6, c7, c8, c9, c10, c11, c12, c13, c14⟩ := u
  unfold wpL_conj wpL_pk
  dsimp only
  refine ⟨fun _ => ?_, fun _ => ⟨fun _ => ?_, fun _ => ⟨fun _ => ?_, fun _ => ⟨fun _ => ?_, fun _ => ⟨fun _ => ?_, fun _ => ⟨fun _ => ?_, fun _ => ⟨fun _ => ?_, fun _ => ⟨fun _ => ?_, fun _ => ⟨fun _ => ?_, fun _ => ⟨fun _ => ?_, fun _ => ⟨fun _ => ?_, fun _ => ?_⟩⟩⟩⟩⟩⟩⟩⟩⟩⟩⟩
  all_goals
    refine mw_feed h (fun r u hu => ?_) _ _ _ _
    obtain ⟨d1, d2, d3, d4, d5, d6, d7, d8, d9, d10, d11, d12, d13, d14⟩ := u
    unfold wL_conj_477
    refine mw_conj hu (fun r u hu => ?_)
    obtain ⟨e1, e2, e3, e4, e5, e6, e7, e8, e9, e10, e11, e12, e13, e14⟩ := u
    exact hp _ hu
theorem mv_gen (h : li_T n A Z M u) (hp : ∀ u, li_T n A Z M u → post u) (p1 : Int32) : wpL_gen post u p1 := by
  obtain ⟨c1, c2, c3, c4, c5, c6, c7, c8, c9, c10, c11, c12, c13, c14⟩ := u
  unfold wpL_gen wpL_pk
  dsimp only
  refine ⟨fun _ => ?_, fun _ => ⟨fun _ => ?_, fun _ => ⟨fun _ => ?_, fun _ => ⟨fun _ => ?_, fun _ => ⟨fun _ => ?_, fun _ => ?_⟩⟩⟩⟩⟩
  all_goals
    refine mw_feed h (fun r u hu => ?_) _ _ _ _
    obtain ⟨d1, d2, d3, d4, d5, d6, d7, d8, d9, d10, d11, d12, d13, d14⟩ := u
    unfold wL_gen_152
    refine mw_gen hu (fun r u hu => ?_)
    obtain ⟨e1, e2, e3, e4, e5, e6, e7, e8, e9, e10, e11, e12, e13, e14⟩ := u
    exact hp _ hu
end MF
theorem mv_var {post : Int32 → Prop} (hp : ∀ r, post r) (x : Int32) : wpL_var post () x := by
  unfold wpL_var
  intro x1 _
  refine ⟨fun _ => ?_, fun _ => ⟨fun _ => ?_, fun _ => ⟨fun _ => ?_, fun _ => ⟨fun _ => ?_, fun _ => ⟨fun _ => ?_, fun _ => ⟨fun _ => ?_, fun _ => ⟨fun _ => ?_, fun _ => ?_⟩⟩⟩⟩⟩⟩⟩
  all_goals exact hp _
theorem mv_cell {post : Int32 → Prop} {L : Nat} {xs : Nat → Int32} (hp : ∀ r, post r) (j : Nat) (hj : j < 2 ^ 31) (hL : L < 2 ^ 31) : wpL_cell post L xs () (nI j) := by
  unfold wpL_cell
  exact pk_le L j (fun _ => hp _) (fun h => ⟨vp_in_nI h hL, hp _⟩)
