/-! 31: the law -/
theorem i_vc (xs : Nat → Int32) (L : Nat) (hL : L ≤ 260) : wpL_law (fun r => r = 1) L xs := by
  unfold wpL_law wpL_pk
  refine ⟨10, 5173, by omega, by omega, mw_init (by omega) (by omega) (fun u hu => ?_)⟩
  obtain ⟨c1, c2, c3, c4, c5, c6, c7, c8, c9, c10, c11, c12, c13, c14⟩ := u
  refine mw_declare (n := 0) (a := 2) (z := 0) hu (by omega) (lz_SG (by omega)) 0 (by omega) (by omega) (by omega) (by decide +kernel) rfl (fun _ u hu => ?_)
  obtain ⟨c1, c2, c3, c4, c5, c6, c7, c8, c9, c10, c11, c12, c13, c14⟩ := u
  refine mw_declare (n := 1) (a := 2) (z := 1) hu (by omega) (lz_SG (by omega)) 3 (by omega) (by omega) (by omega) (by decide +kernel) rfl (fun _ u hu => ?_)
  obtain ⟨c1, c2, c3, c4, c5, c6, c7, c8, c9, c10, c11, c12, c13, c14⟩ := u
  refine mw_declare (n := 2) (a := 1) (z := 0) hu (by omega) (lz_SG (by omega)) 1 (by omega) (by omega) (by omega) (by decide +kernel) rfl (fun _ u hu => ?_)
  obtain ⟨c1, c2, c3, c4, c5, c6, c7, c8, c9, c10, c11, c12, c13, c14⟩ := u
  refine mw_declare (n := 3) (a := 1) (z := 1) hu (by omega) (lz_SG (by omega)) 1 (by omega) (by omega) (by omega) (by decide +kernel) rfl (fun _ u hu => ?_)
  obtain ⟨c1, c2, c3, c4, c5, c6, c7, c8, c9, c10, c11, c12, c13, c14⟩ := u
  have hu : li_S 4 lz_A lz_Z (fun _ => False) (fun m => m 0 = []) (c1, c2, c3, c4, c5, c6, c7, c8, c9, c10, c11, c12, c13, c14) := li_imp hu (fun m h => h 0 (by omega))
  refine mw_feedC (t := [70, 90, 98, 61, 98]) hu _ _ _ _ (by decide +kernel) (fun _ u hu => ?_)
  obtain ⟨c1, c2, c3, c4, c5, c6, c7, c8, c9, c10, c11, c12, c13, c14⟩ := u
  refine mw_define hu lz_t1 (fun _ u hu => ?_)
  obtain ⟨c1, c2, c3, c4, c5, c6, c7, c8, c9, c10, c11, c12, c13, c14⟩ := u
  refine mw_feedC (t := [70, 83, 97, 98, 61, 83, 70, 97, 98]) hu _ _ _ _ (by decide +kernel) (fun _ u hu => ?_)
  obtain ⟨c1, c2, c3, c4, c5, c6, c7, c8, c9, c10, c11, c12, c13, c14⟩ := u
  refine mw_define hu lz_t2 (fun _ u hu => ?_)
  obtain ⟨c1, c2, c3, c4, c5, c6, c7, c8, c9, c10, c11, c12, c13, c14⟩ := u
  refine mw_feedC (t := [71, 78, 113, 61, 113]) hu _ _ _ _ (by decide +kernel) (fun _ u hu => ?_)
  obtain ⟨c1, c2, c3, c4, c5, c6, c7, c8, c9, c10, c11, c12, c13, c14⟩ := u
  refine mw_define hu lz_t3 (fun _ u hu => ?_)
  obtain ⟨c1, c2, c3, c4, c5, c6, c7, c8, c9, c10, c11, c12, c13, c14⟩ := u
  refine mw_feedC (t := [71, 67, 97, 112, 113, 61, 67, 97, 71, 112, 113]) hu _ _ _ _ (by decide +kernel) (fun _ u hu => ?_)
  obtain ⟨c1, c2, c3, c4, c5, c6, c7, c8, c9, c10, c11, c12, c13, c14⟩ := u
  refine mw_define hu lz_t4 (fun _ u hu => ?_)
  obtain ⟨c1, c2, c3, c4, c5, c6, c7, c8, c9, c10, c11, c12, c13, c14⟩ := u
  refine mw_feedC (t := [72, 78, 61, 90]) hu _ _ _ _ (by decide +kernel) (fun _ u hu => ?_)
  obtain ⟨c1, c2, c3, c4, c5, c6, c7, c8, c9, c10, c11, c12, c13, c14⟩ := u
  refine mw_define hu lz_t5 (fun _ u hu => ?_)
  obtain ⟨c1, c2, c3, c4, c5, c6, c7, c8, c9, c10, c11, c12, c13, c14⟩ := u
  refine mw_feedC (t := [72, 67, 97, 112, 61, 83, 72, 112]) hu _ _ _ _ (by decide +kernel) (fun _ u hu => ?_)
  obtain ⟨c1, c2, c3, c4, c5, c6, c7, c8, c9, c10, c11, c12, c13, c14⟩ := u
  refine mw_define hu lz_t6 (fun _ u hu => ?_)
  obtain ⟨c1, c2, c3, c4, c5, c6, c7, c8, c9, c10, c11, c12, c13, c14⟩ := u
  refine mw_feedC (t := [73, 78, 61, 78]) hu _ _ _ _ (by decide +kernel) (fun _ u hu => ?_)
  obtain ⟨c1, c2, c3, c4, c5, c6, c7, c8, c9, c10, c11, c12, c13, c14⟩ := u
  refine mw_define hu lz_t7 (fun _ u hu => ?_)
  obtain ⟨c1, c2, c3, c4, c5, c6, c7, c8, c9, c10, c11, c12, c13, c14⟩ := u
  refine mw_feedC (t := [73, 67, 97, 112, 61, 71, 73, 112, 67, 97, 78]) hu _ _ _ _ (by decide +kernel) (fun _ u hu => ?_)
  obtain ⟨c1, c2, c3, c4, c5, c6, c7, c8, c9, c10, c11, c12, c13, c14⟩ := u
  refine mw_define hu lz_t8 (fun _ u hu => ?_)
  obtain ⟨c1, c2, c3, c4, c5, c6, c7, c8, c9, c10, c11, c12, c13, c14⟩ := u
  exact ⟨L + 1, mv_315 hL (L + 1) 0 0 (fun _ => False) c1 c2 c3 c4 c5 c6 c7 c8 c9 c10 c11 c12 c13 c14 (by omega) (by omega) vz_S_0 (li_imp hu (fun _ _ => trivial))⟩
