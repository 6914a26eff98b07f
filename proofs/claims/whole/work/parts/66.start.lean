/-! The law from its entry. -/
theorem dL_0 : decode code 0 = .ok (.new 7, 3) := by decide +kernel
theorem dL_3 : decode code 3 = .ok (.dup, 1) := by decide +kernel
theorem dL_4 : decode code 4 = .ok (.invokespecial 9, 3) := by decide +kernel
theorem dL_7 : decode code 7 = .ok (.astore_n 1, 1) := by decide +kernel
theorem dL_8 : decode code 8 = .ok (.new 10, 3) := by decide +kernel
theorem dL_11 : decode code 11 = .ok (.dup, 1) := by decide +kernel
theorem dL_12 : decode code 12 = .ok (.invokespecial 12, 3) := by decide +kernel
theorem dL_15 : decode code 15 = .ok (.astore_n 2, 1) := by decide +kernel
theorem kL7 : Cond.classLink R_law 7 (cn 0) ∈ WS := atW_mem (i := 11) (by decide +kernel)
theorem kL10 : Cond.classLink R_law 10 (cn 5) ∈ WS := atW_mem (i := 482) (by decide +kernel)
theorem kL9 : Cond.methodLink R_law 9 yc0 ∈ WS := atW_mem (i := 13) (by decide +kernel)
theorem kL12 : Cond.methodLink R_law 12 yc5 ∈ WS := atW_mem (i := 484) (by decide +kernel)
def tmS (n : String) : Term := .static "MateArbiter" n "[I"
theorem tab24 {b : Nat} {s : State} {A : Nat → Prop} (hgv : (Jvm.Cond.and given_1 narrow_1).before #[Value.ref b] s = true) (hts : ∀ w ∈ lw_tbl, w.before #[Value.ref b] s = true) (hA : ∀ a : Nat, a < s.heap.size → ¬ A a) : ∃ t : Nat, va_Z (sti 24).1 (sti 24).2.1 (sti 24).2.2 (.ref t) A s s.heap ∧ va_T .int t (oln 24) (fun j => .int (Int32.ofInt (tbl 24 j))) A s s.heap := by
  have hs := flat_of_before _ hgv
  obtain ⟨t, h1, h2⟩ := va_Tof (tm := tmS "KING_HOME") (ty := .int) (N := 4) (f := fun j => .int (Int32.ofInt (tbl 24 j))) (A := A) (by decide) (hs (.arrayOf (tmS "KING_HOME") .int) (by decide +kernel)) (va_eqt (hs (.eq (.length (tmS "KING_HOME")) (.int 4)) (by decide +kernel))) (fun j hj => by
    rcases (show j = 0 ∨ j = 1 ∨ j = 2 ∨ j = 3 by omega) with rfl | rfl | rfl | rfl
    · exact va_eqt (hs (.eq (.elem (tmS "KING_HOME") (.int (Int32.ofNat 0))) (.int (Int32.ofInt (tbl 24 (0 : Nat))))) (by decide +kernel))
    · exact va_eqt (hs (.eq (.elem (tmS "KING_HOME") (.int (Int32.ofNat 1))) (.int (Int32.ofInt (tbl 24 (1 : Nat))))) (by decide +kernel))
    · exact va_eqt (hs (.eq (.elem (tmS "KING_HOME") (.int (Int32.ofNat 2))) (.int (Int32.ofInt (tbl 24 (2 : Nat))))) (by decide +kernel))
    · exact va_eqt (hs (.eq (.elem (tmS "KING_HOME") (.int (Int32.ofNat 3))) (.int (Int32.ofInt (tbl 24 (3 : Nat))))) (by decide +kernel))) hA
  refine ⟨t, va_Zref (hts _ (List.mem_append_right _ (List.mem_of_getElem? (i := 195) (by decide +kernel)))) (hts _ (List.mem_append_right _ (List.mem_of_getElem? (i := 1) (by decide +kernel)))) h1 hA, h2⟩
theorem tab25 {b : Nat} {s : State} {A : Nat → Prop} (hgv : (Jvm.Cond.and given_1 narrow_1).before #[Value.ref b] s = true) (hts : ∀ w ∈ lw_tbl, w.before #[Value.ref b] s = true) (hA : ∀ a : Nat, a < s.heap.size → ¬ A a) : ∃ t : Nat, va_Z (sti 25).1 (sti 25).2.1 (sti 25).2.2 (.ref t) A s s.heap ∧ va_T .int t (oln 25) (fun j => .int (Int32.ofInt (tbl 25 j))) A s s.heap := by
  have hs := flat_of_before _ hgv
  obtain ⟨t, h1, h2⟩ := va_Tof (tm := tmS "ROOK_HOME") (ty := .int) (N := 4) (f := fun j => .int (Int32.ofInt (tbl 25 j))) (A := A) (by decide) (hs (.arrayOf (tmS "ROOK_HOME") .int) (by decide +kernel)) (va_eqt (hs (.eq (.length (tmS "ROOK_HOME")) (.int 4)) (by decide +kernel))) (fun j hj => by
    rcases (show j = 0 ∨ j = 1 ∨ j = 2 ∨ j = 3 by omega) with rfl | rfl | rfl | rfl
    · exact va_eqt (hs (.eq (.elem (tmS "ROOK_HOME") (.int (Int32.ofNat 0))) (.int (Int32.ofInt (tbl 25 (0 : Nat))))) (by decide +kernel))
    · exact va_eqt (hs (.eq (.elem (tmS "ROOK_HOME") (.int (Int32.ofNat 1))) (.int (Int32.ofInt (tbl 25 (1 : Nat))))) (by decide +kernel))
    · exact va_eqt (hs (.eq (.elem (tmS "ROOK_HOME") (.int (Int32.ofNat 2))) (.int (Int32.ofInt (tbl 25 (2 : Nat))))) (by decide +kernel))
    · exact va_eqt (hs (.eq (.elem (tmS "ROOK_HOME") (.int (Int32.ofNat 3))) (.int (Int32.ofInt (tbl 25 (3 : Nat))))) (by decide +kernel))) hA
  refine ⟨t, va_Zref (hts _ (List.mem_append_right _ (List.mem_of_getElem? (i := 266) (by decide +kernel)))) (hts _ (List.mem_append_right _ (List.mem_of_getElem? (i := 1) (by decide +kernel)))) h1 hA, h2⟩
theorem tab26 {b : Nat} {s : State} {A : Nat → Prop} (hgv : (Jvm.Cond.and given_1 narrow_1).before #[Value.ref b] s = true) (hts : ∀ w ∈ lw_tbl, w.before #[Value.ref b] s = true) (hA : ∀ a : Nat, a < s.heap.size → ¬ A a) : ∃ t : Nat, va_Z (sti 26).1 (sti 26).2.1 (sti 26).2.2 (.ref t) A s s.heap ∧ va_T .int t (oln 26) (fun j => .int (Int32.ofInt (tbl 26 j))) A s s.heap := by
  have hs := flat_of_before _ hgv
  obtain ⟨t, h1, h2⟩ := va_Tof (tm := tmS "WAY_FILE") (ty := .int) (N := 8) (f := fun j => .int (Int32.ofInt (tbl 26 j))) (A := A) (by decide) (hs (.arrayOf (tmS "WAY_FILE") .int) (by decide +kernel)) (va_eqt (hs (.eq (.length (tmS "WAY_FILE")) (.int 8)) (by decide +kernel))) (fun j hj => by
    rcases (show j = 0 ∨ j = 1 ∨ j = 2 ∨ j = 3 ∨ j = 4 ∨ j = 5 ∨ j = 6 ∨ j = 7 by omega) with rfl | rfl | rfl | rfl | rfl | rfl | rfl | rfl
    · exact va_eqt (hs (.eq (.elem (tmS "WAY_FILE") (.int (Int32.ofNat 0))) (.int (Int32.ofInt (tbl 26 (0 : Nat))))) (by decide +kernel))
    · exact va_eqt (hs (.eq (.elem (tmS "WAY_FILE") (.int (Int32.ofNat 1))) (.int (Int32.ofInt (tbl 26 (1 : Nat))))) (by decide +kernel))
    · exact va_eqt (hs (.eq (.elem (tmS "WAY_FILE") (.int (Int32.ofNat 2))) (.int (Int32.ofInt (tbl 26 (2 : Nat))))) (by decide +kernel))
    · exact va_eqt (hs (.eq (.elem (tmS "WAY_FILE") (.int (Int32.ofNat 3))) (.int (Int32.ofInt (tbl 26 (3 : Nat))))) (by decide +kernel))
    · exact va_eqt (hs (.eq (.elem (tmS "WAY_FILE") (.int (Int32.ofNat 4))) (.int (Int32.ofInt (tbl 26 (4 : Nat))))) (by decide +kernel))
    · exact va_eqt (hs (.eq (.elem (tmS "WAY_FILE") (.int (Int32.ofNat 5))) (.int (Int32.ofInt (tbl 26 (5 : Nat))))) (by decide +kernel))
    · exact va_eqt (hs (.eq (.elem (tmS "WAY_FILE") (.int (Int32.ofNat 6))) (.int (Int32.ofInt (tbl 26 (6 : Nat))))) (by decide +kernel))
    · exact va_eqt (hs (.eq (.elem (tmS "WAY_FILE") (.int (Int32.ofNat 7))) (.int (Int32.ofInt (tbl 26 (7 : Nat))))) (by decide +kernel))) hA
  refine ⟨t, va_Zref (hts _ (List.mem_append_right _ (List.mem_of_getElem? (i := 181) (by decide +kernel)))) (hts _ (List.mem_append_right _ (List.mem_of_getElem? (i := 1) (by decide +kernel)))) h1 hA, h2⟩
theorem tab27 {b : Nat} {s : State} {A : Nat → Prop} (hgv : (Jvm.Cond.and given_1 narrow_1).before #[Value.ref b] s = true) (hts : ∀ w ∈ lw_tbl, w.before #[Value.ref b] s = true) (hA : ∀ a : Nat, a < s.heap.size → ¬ A a) : ∃ t : Nat, va_Z (sti 27).1 (sti 27).2.1 (sti 27).2.2 (.ref t) A s s.heap ∧ va_T .int t (oln 27) (fun j => .int (Int32.ofInt (tbl 27 j))) A s s.heap := by
  have hs := flat_of_before _ hgv
  obtain ⟨t, h1, h2⟩ := va_Tof (tm := tmS "WAY_RANK") (ty := .int) (N := 8) (f := fun j => .int (Int32.ofInt (tbl 27 j))) (A := A) (by decide) (hs (.arrayOf (tmS "WAY_RANK") .int) (by decide +kernel)) (va_eqt (hs (.eq (.length (tmS "WAY_RANK")) (.int 8)) (by decide +kernel))) (fun j hj => by
    rcases (show j = 0 ∨ j = 1 ∨ j = 2 ∨ j = 3 ∨ j = 4 ∨ j = 5 ∨ j = 6 ∨ j = 7 by omega) with rfl | rfl | rfl | rfl | rfl | rfl | rfl | rfl
    · exact va_eqt (hs (.eq (.elem (tmS "WAY_RANK") (.int (Int32.ofNat 0))) (.int (Int32.ofInt (tbl 27 (0 : Nat))))) (by decide +kernel))
    · exact va_eqt (hs (.eq (.elem (tmS "WAY_RANK") (.int (Int32.ofNat 1))) (.int (Int32.ofInt (tbl 27 (1 : Nat))))) (by decide +kernel))
    · exact va_eqt (hs (.eq (.elem (tmS "WAY_RANK") (.int (Int32.ofNat 2))) (.int (Int32.ofInt (tbl 27 (2 : Nat))))) (by decide +kernel))
    · exact va_eqt (hs (.eq (.elem (tmS "WAY_RANK") (.int (Int32.ofNat 3))) (.int (Int32.ofInt (tbl 27 (3 : Nat))))) (by decide +kernel))
    · exact va_eqt (hs (.eq (.elem (tmS "WAY_RANK") (.int (Int32.ofNat 4))) (.int (Int32.ofInt (tbl 27 (4 : Nat))))) (by decide +kernel))
    · exact va_eqt (hs (.eq (.elem (tmS "WAY_RANK") (.int (Int32.ofNat 5))) (.int (Int32.ofInt (tbl 27 (5 : Nat))))) (by decide +kernel))
    · exact va_eqt (hs (.eq (.elem (tmS "WAY_RANK") (.int (Int32.ofNat 6))) (.int (Int32.ofInt (tbl 27 (6 : Nat))))) (by decide +kernel))
    · exact va_eqt (hs (.eq (.elem (tmS "WAY_RANK") (.int (Int32.ofNat 7))) (.int (Int32.ofInt (tbl 27 (7 : Nat))))) (by decide +kernel))) hA
  refine ⟨t, va_Zref (hts _ (List.mem_append_right _ (List.mem_of_getElem? (i := 183) (by decide +kernel)))) (hts _ (List.mem_append_right _ (List.mem_of_getElem? (i := 1) (by decide +kernel)))) h1 hA, h2⟩
theorem tab28 {b : Nat} {s : State} {A : Nat → Prop} (hgv : (Jvm.Cond.and given_1 narrow_1).before #[Value.ref b] s = true) (hts : ∀ w ∈ lw_tbl, w.before #[Value.ref b] s = true) (hA : ∀ a : Nat, a < s.heap.size → ¬ A a) : ∃ t : Nat, va_Z (sti 28).1 (sti 28).2.1 (sti 28).2.2 (.ref t) A s s.heap ∧ va_T .int t (oln 28) (fun j => .int (Int32.ofInt (tbl 28 j))) A s s.heap := by
  have hs := flat_of_before _ hgv
  obtain ⟨t, h1, h2⟩ := va_Tof (tm := tmS "LEAP_FILE") (ty := .int) (N := 8) (f := fun j => .int (Int32.ofInt (tbl 28 j))) (A := A) (by decide) (hs (.arrayOf (tmS "LEAP_FILE") .int) (by decide +kernel)) (va_eqt (hs (.eq (.length (tmS "LEAP_FILE")) (.int 8)) (by decide +kernel))) (fun j hj => by
    rcases (show j = 0 ∨ j = 1 ∨ j = 2 ∨ j = 3 ∨ j = 4 ∨ j = 5 ∨ j = 6 ∨ j = 7 by omega) with rfl | rfl | rfl | rfl | rfl | rfl | rfl | rfl
    · exact va_eqt (hs (.eq (.elem (tmS "LEAP_FILE") (.int (Int32.ofNat 0))) (.int (Int32.ofInt (tbl 28 (0 : Nat))))) (by decide +kernel))
    · exact va_eqt (hs (.eq (.elem (tmS "LEAP_FILE") (.int (Int32.ofNat 1))) (.int (Int32.ofInt (tbl 28 (1 : Nat))))) (by decide +kernel))
    · exact va_eqt (hs (.eq (.elem (tmS "LEAP_FILE") (.int (Int32.ofNat 2))) (.int (Int32.ofInt (tbl 28 (2 : Nat))))) (by decide +kernel))
    · exact va_eqt (hs (.eq (.elem (tmS "LEAP_FILE") (.int (Int32.ofNat 3))) (.int (Int32.ofInt (tbl 28 (3 : Nat))))) (by decide +kernel))
    · exact va_eqt (hs (.eq (.elem (tmS "LEAP_FILE") (.int (Int32.ofNat 4))) (.int (Int32.ofInt (tbl 28 (4 : Nat))))) (by decide +kernel))
    · exact va_eqt (hs (.eq (.elem (tmS "LEAP_FILE") (.int (Int32.ofNat 5))) (.int (Int32.ofInt (tbl 28 (5 : Nat))))) (by decide +kernel))
    · exact va_eqt (hs (.eq (.elem (tmS "LEAP_FILE") (.int (Int32.ofNat 6))) (.int (Int32.ofInt (tbl 28 (6 : Nat))))) (by decide +kernel))
    · exact va_eqt (hs (.eq (.elem (tmS "LEAP_FILE") (.int (Int32.ofNat 7))) (.int (Int32.ofInt (tbl 28 (7 : Nat))))) (by decide +kernel))) hA
  refine ⟨t, va_Zref (hts _ (List.mem_append_right _ (List.mem_of_getElem? (i := 185) (by decide +kernel)))) (hts _ (List.mem_append_right _ (List.mem_of_getElem? (i := 1) (by decide +kernel)))) h1 hA, h2⟩
theorem tab29 {b : Nat} {s : State} {A : Nat → Prop} (hgv : (Jvm.Cond.and given_1 narrow_1).before #[Value.ref b] s = true) (hts : ∀ w ∈ lw_tbl, w.before #[Value.ref b] s = true) (hA : ∀ a : Nat, a < s.heap.size → ¬ A a) : ∃ t : Nat, va_Z (sti 29).1 (sti 29).2.1 (sti 29).2.2 (.ref t) A s s.heap ∧ va_T .int t (oln 29) (fun j => .int (Int32.ofInt (tbl 29 j))) A s s.heap := by
  have hs := flat_of_before _ hgv
  obtain ⟨t, h1, h2⟩ := va_Tof (tm := tmS "LEAP_RANK") (ty := .int) (N := 8) (f := fun j => .int (Int32.ofInt (tbl 29 j))) (A := A) (by decide) (hs (.arrayOf (tmS "LEAP_RANK") .int) (by decide +kernel)) (va_eqt (hs (.eq (.length (tmS "LEAP_RANK")) (.int 8)) (by decide +kernel))) (fun j hj => by
    rcases (show j = 0 ∨ j = 1 ∨ j = 2 ∨ j = 3 ∨ j = 4 ∨ j = 5 ∨ j = 6 ∨ j = 7 by omega) with rfl | rfl | rfl | rfl | rfl | rfl | rfl | rfl
    · exact va_eqt (hs (.eq (.elem (tmS "LEAP_RANK") (.int (Int32.ofNat 0))) (.int (Int32.ofInt (tbl 29 (0 : Nat))))) (by decide +kernel))
    · exact va_eqt (hs (.eq (.elem (tmS "LEAP_RANK") (.int (Int32.ofNat 1))) (.int (Int32.ofInt (tbl 29 (1 : Nat))))) (by decide +kernel))
    · exact va_eqt (hs (.eq (.elem (tmS "LEAP_RANK") (.int (Int32.ofNat 2))) (.int (Int32.ofInt (tbl 29 (2 : Nat))))) (by decide +kernel))
    · exact va_eqt (hs (.eq (.elem (tmS "LEAP_RANK") (.int (Int32.ofNat 3))) (.int (Int32.ofInt (tbl 29 (3 : Nat))))) (by decide +kernel))
    · exact va_eqt (hs (.eq (.elem (tmS "LEAP_RANK") (.int (Int32.ofNat 4))) (.int (Int32.ofInt (tbl 29 (4 : Nat))))) (by decide +kernel))
    · exact va_eqt (hs (.eq (.elem (tmS "LEAP_RANK") (.int (Int32.ofNat 5))) (.int (Int32.ofInt (tbl 29 (5 : Nat))))) (by decide +kernel))
    · exact va_eqt (hs (.eq (.elem (tmS "LEAP_RANK") (.int (Int32.ofNat 6))) (.int (Int32.ofInt (tbl 29 (6 : Nat))))) (by decide +kernel))
    · exact va_eqt (hs (.eq (.elem (tmS "LEAP_RANK") (.int (Int32.ofNat 7))) (.int (Int32.ofInt (tbl 29 (7 : Nat))))) (by decide +kernel))) hA
  refine ⟨t, va_Zref (hts _ (List.mem_append_right _ (List.mem_of_getElem? (i := 187) (by decide +kernel)))) (hts _ (List.mem_append_right _ (List.mem_of_getElem? (i := 1) (by decide +kernel)))) h1 hA, h2⟩
theorem tab30 {b : Nat} {s : State} {A : Nat → Prop} (hgv : (Jvm.Cond.and given_1 narrow_1).before #[Value.ref b] s = true) (hts : ∀ w ∈ lw_tbl, w.before #[Value.ref b] s = true) (hA : ∀ a : Nat, a < s.heap.size → ¬ A a) : ∃ t : Nat, va_Z (sti 30).1 (sti 30).2.1 (sti 30).2.2 (.ref t) A s s.heap ∧ va_T .int t (oln 30) (fun j => .int (Int32.ofInt (tbl 30 j))) A s s.heap := by
  have hs := flat_of_before _ hgv
  obtain ⟨t, h1, h2⟩ := va_Tof (tm := tmS "FIRST_RANK") (ty := .int) (N := 8) (f := fun j => .int (Int32.ofInt (tbl 30 j))) (A := A) (by decide) (hs (.arrayOf (tmS "FIRST_RANK") .int) (by decide +kernel)) (va_eqt (hs (.eq (.length (tmS "FIRST_RANK")) (.int 8)) (by decide +kernel))) (fun j hj => by
    rcases (show j = 0 ∨ j = 1 ∨ j = 2 ∨ j = 3 ∨ j = 4 ∨ j = 5 ∨ j = 6 ∨ j = 7 by omega) with rfl | rfl | rfl | rfl | rfl | rfl | rfl | rfl
    · exact va_eqt (hs (.eq (.elem (tmS "FIRST_RANK") (.int (Int32.ofNat 0))) (.int (Int32.ofInt (tbl 30 (0 : Nat))))) (by decide +kernel))
    · exact va_eqt (hs (.eq (.elem (tmS "FIRST_RANK") (.int (Int32.ofNat 1))) (.int (Int32.ofInt (tbl 30 (1 : Nat))))) (by decide +kernel))
    · exact va_eqt (hs (.eq (.elem (tmS "FIRST_RANK") (.int (Int32.ofNat 2))) (.int (Int32.ofInt (tbl 30 (2 : Nat))))) (by decide +kernel))
    · exact va_eqt (hs (.eq (.elem (tmS "FIRST_RANK") (.int (Int32.ofNat 3))) (.int (Int32.ofInt (tbl 30 (3 : Nat))))) (by decide +kernel))
    · exact va_eqt (hs (.eq (.elem (tmS "FIRST_RANK") (.int (Int32.ofNat 4))) (.int (Int32.ofInt (tbl 30 (4 : Nat))))) (by decide +kernel))
    · exact va_eqt (hs (.eq (.elem (tmS "FIRST_RANK") (.int (Int32.ofNat 5))) (.int (Int32.ofInt (tbl 30 (5 : Nat))))) (by decide +kernel))
    · exact va_eqt (hs (.eq (.elem (tmS "FIRST_RANK") (.int (Int32.ofNat 6))) (.int (Int32.ofInt (tbl 30 (6 : Nat))))) (by decide +kernel))
    · exact va_eqt (hs (.eq (.elem (tmS "FIRST_RANK") (.int (Int32.ofNat 7))) (.int (Int32.ofInt (tbl 30 (7 : Nat))))) (by decide +kernel))) hA
  refine ⟨t, va_Zref (hts _ (List.mem_append_right _ (List.mem_of_getElem? (i := 123) (by decide +kernel)))) (hts _ (List.mem_append_right _ (List.mem_of_getElem? (i := 1) (by decide +kernel)))) h1 hA, h2⟩
theorem tab31 {b : Nat} {s : State} {A : Nat → Prop} (hgv : (Jvm.Cond.and given_1 narrow_1).before #[Value.ref b] s = true) (hts : ∀ w ∈ lw_tbl, w.before #[Value.ref b] s = true) (hA : ∀ a : Nat, a < s.heap.size → ¬ A a) : ∃ t : Nat, va_Z (sti 31).1 (sti 31).2.1 (sti 31).2.2 (.ref t) A s s.heap ∧ va_T .int t (oln 31) (fun j => .int (Int32.ofInt (tbl 31 j))) A s s.heap := by
  have hs := flat_of_before _ hgv
  obtain ⟨t, h1, h2⟩ := va_Tof (tm := tmS "WORTH") (ty := .int) (N := 8) (f := fun j => .int (Int32.ofInt (tbl 31 j))) (A := A) (by decide) (hs (.arrayOf (tmS "WORTH") .int) (by decide +kernel)) (va_eqt (hs (.eq (.length (tmS "WORTH")) (.int 8)) (by decide +kernel))) (fun j hj => by
    rcases (show j = 0 ∨ j = 1 ∨ j = 2 ∨ j = 3 ∨ j = 4 ∨ j = 5 ∨ j = 6 ∨ j = 7 by omega) with rfl | rfl | rfl | rfl | rfl | rfl | rfl | rfl
    · exact va_eqt (hs (.eq (.elem (tmS "WORTH") (.int (Int32.ofNat 0))) (.int (Int32.ofInt (tbl 31 (0 : Nat))))) (by decide +kernel))
    · exact va_eqt (hs (.eq (.elem (tmS "WORTH") (.int (Int32.ofNat 1))) (.int (Int32.ofInt (tbl 31 (1 : Nat))))) (by decide +kernel))
    · exact va_eqt (hs (.eq (.elem (tmS "WORTH") (.int (Int32.ofNat 2))) (.int (Int32.ofInt (tbl 31 (2 : Nat))))) (by decide +kernel))
    · exact va_eqt (hs (.eq (.elem (tmS "WORTH") (.int (Int32.ofNat 3))) (.int (Int32.ofInt (tbl 31 (3 : Nat))))) (by decide +kernel))
    · exact va_eqt (hs (.eq (.elem (tmS "WORTH") (.int (Int32.ofNat 4))) (.int (Int32.ofInt (tbl 31 (4 : Nat))))) (by decide +kernel))
    · exact va_eqt (hs (.eq (.elem (tmS "WORTH") (.int (Int32.ofNat 5))) (.int (Int32.ofInt (tbl 31 (5 : Nat))))) (by decide +kernel))
    · exact va_eqt (hs (.eq (.elem (tmS "WORTH") (.int (Int32.ofNat 6))) (.int (Int32.ofInt (tbl 31 (6 : Nat))))) (by decide +kernel))
    · exact va_eqt (hs (.eq (.elem (tmS "WORTH") (.int (Int32.ofNat 7))) (.int (Int32.ofInt (tbl 31 (7 : Nat))))) (by decide +kernel))) hA
  refine ⟨t, va_Zref (hts _ (List.mem_append_right _ (List.mem_of_getElem? (i := 461) (by decide +kernel)))) (hts _ (List.mem_append_right _ (List.mem_of_getElem? (i := 1) (by decide +kernel)))) h1 hA, h2⟩
theorem ht2_of {b : Nat} {s : State} (hts : ∀ w ∈ lw_tbl, w.before #[Value.ref b] s = true) : ∀ w ∈ WS2, w.before #[Value.ref b] s = true := by
  intro w hw
  rcases List.mem_append.mp hw with h | h
  · exact hts w (List.mem_filter.mp h).1
  · unfold WA at h
    simp only [List.mem_cons, List.not_mem_nil, or_false] at h
    rcases h with rfl | rfl | rfl | rfl
    · exact hts _ (List.mem_append_right _ (List.mem_of_getElem? (i := 40) (by decide +kernel)))
    · exact hts _ (List.mem_append_right _ (List.mem_of_getElem? (i := 110) (by decide +kernel)))
    · exact hts _ (List.mem_append_right _ (List.mem_of_getElem? (i := 596) (by decide +kernel)))
    · exact hts _ (List.mem_append_right _ (List.mem_of_getElem? (i := 597) (by decide +kernel)))
theorem nst_of {b : Nat} {s : State} (hts : ∀ w ∈ lw_tbl, w.before #[Value.ref b] s = true) : (∀ q ∈ nestS, va_Nw (nestSw q) s) ∧ (∀ q ∈ nestM, va_Nw (nestMw q) s) := by
  constructor
  · intro q hq
    rw [nestS_eq] at hq
    obtain ⟨r, hr, rfl⟩ := List.mem_map.mp hq
    have h1 := atN_mem (List.all_eq_true.mp nestS_ok r hr)
    exact va_Nw.of h1.2 (hts _ h1.1)
  · intro q hq
    rw [nestM_eq] at hq
    obtain ⟨r, hr, rfl⟩ := List.mem_map.mp hq
    have h1 := atN_mem (List.all_eq_true.mp nestM_ok r hr)
    exact va_Nw.of h1.2 (hts _ h1.1)
theorem nst_C {b : Nat} {s : State} (hts : ∀ w ∈ lw_tbl, w.before #[Value.ref b] s = true) : nstC s := by
  have h1 : _ ∧ _ := (atN_mem (i := 21) (w := .methodLinkNest (cn 0) 11 yc1 hostN) (by decide +kernel))
  have h2 : _ ∧ _ := (atN_mem (i := 74) (w := .methodLinkNest (cn 0) 18 yc3 hostN) (by decide +kernel))
  have h3 : _ ∧ _ := (atN_mem (i := 89) (w := .methodLinkNest (cn 0) 28 yc4 hostN) (by decide +kernel))
  have h4 : _ ∧ _ := (atN_mem (i := 27) (w := .methodLinkNest (cn 1) 11 yc2 hostN) (by decide +kernel))
  exact ⟨va_Nw.of h1.2 (hts _ h1.1), va_Nw.of h2.2 (hts _ h2.1), va_Nw.of h3.2 (hts _ h3.1), va_Nw.of h4.2 (hts _ h4.1)⟩
theorem kn_all {b : Nat} {s : State} (htw : ∀ w ∈ WS, w.before #[Value.ref b] s = true) : ∃ D : va_G, ∀ (c : Nat) (q : vw_C), cls[c]? = some q → u_Kn s q.1 q.2.1 q.2.2 (D.1 c) (D.2 c) := by
  obtain ⟨c0, i0, k0⟩ := u_known htw (f_uws 0 (by decide)) (htw _ ks0)
  obtain ⟨c1, i1, k1⟩ := u_known htw (f_uws 1 (by decide)) (htw _ ks1)
  obtain ⟨c2, i2, k2⟩ := u_known htw (f_uws 2 (by decide)) (htw _ ks2)
  obtain ⟨c3, i3, k3⟩ := u_known htw (f_uws 3 (by decide)) (htw _ ks3)
  obtain ⟨c4, i4, k4⟩ := u_known htw (f_uws 4 (by decide)) (htw _ ks4)
  obtain ⟨c5, i5, k5⟩ := u_known htw (f_uws 5 (by decide)) (htw _ ks5)
  refine ⟨(fun c => match c with | 0 => c0 | 1 => c1 | 2 => c2 | 3 => c3 | 4 => c4 | _ => c5, fun c => match c with | 0 => i0 | 1 => i1 | 2 => i2 | 3 => i3 | 4 => i4 | _ => i5), fun c q hq => ?_⟩
  have hc : c < 6 := (List.getElem?_eq_some_iff.mp hq).1
  rw [f_cls c hc] at hq
  cases hq
  rcases (show c = 0 ∨ c = 1 ∨ c = 2 ∨ c = 3 ∨ c = 4 ∨ c = 5 by omega) with rfl | rfl | rfl | rfl | rfl | rfl
  · exact k0
  · exact k1
  · exact k2
  · exact k3
  · exact k4
  · exact k5
theorem ar_one {b : Nat} {s : State} {ty : FieldType} (h : (Cond.arrayClass ty).before #[Value.ref b] s = true) (hn : ∀ C, ty ≠ .object C) : ∃ cA : ClassId, ArrOfT s cA ty ∧ va_RA s cA ty := by
  obtain ⟨cA, kA, comp, h1, h2, h3⟩ := Cond.arrayClass_spec h
  refine ⟨cA, fun n z => ⟨fun k h => (by cases h), kA, h2, comp, h3⟩, ?_⟩
  unfold va_RA
  split
  · exact absurd rfl (hn _)
  · exact h1
theorem kn_ty {b : Nat} {s : State} (htw : ∀ w ∈ WS2, w.before #[Value.ref b] s = true) : ∃ cA : Nat → ClassId, ∀ (k : Nat) (q : ClassId × FieldType), (tyL cA)[k]? = some q → ArrOfT s q.1 q.2 ∧ va_RA s q.1 q.2 := by
  obtain ⟨c2, h2⟩ := ar_one (htw _ ka_int) (fun _ z => by cases z)
  obtain ⟨c3, h3⟩ := ar_one (htw _ ka_byte) (fun _ z => by cases z)
  obtain ⟨c4, h4⟩ := ar_one (htw _ ka_short) (fun _ z => by cases z)
  obtain ⟨c5, h5⟩ := ar_one (htw _ ka_long) (fun _ z => by cases z)
  refine ⟨fun k => match k with | 2 => c2 | 3 => c3 | 4 => c4 | _ => c5, fun k q hq => ?_⟩
  have hk : k < 4 := (List.getElem?_eq_some_iff.mp hq).1
  rcases (show k = 0 ∨ k = 1 ∨ k = 2 ∨ k = 3 by omega) with rfl | rfl | rfl | rfl
  · cases hq; exact h2
  · cases hq; exact h3
  · cases hq; exact h4
  · cases hq; exact h5
set_option maxHeartbeats 4000000 in
set_option maxRecDepth 100000 in
theorem whole_start {p : Program} {e : Env} {s : State} {m : MethodId} {below : List Frame} {meth : Method} {c : Code} (l : Launch) {b L : Nat} {xs : Nat → Int32} (hL : L ≤ 2048) (C0 : lw_At p s m meth c b L xs) : W p l e room_1 s m #[Value.ref b] below meth c s.heap [] 0 0 (lw_Z below #[Value.ref b] s) (entryFrame m ([Value.ref b] : List Value).toArray 4) := by
  obtain ⟨hx, hb, hr, hml, hown, hts, hX, hbl, hlocks, hgv⟩ := C0
  have htw : ∀ w ∈ WS, w.before #[Value.ref b] s = true := fun w h => hts w (List.mem_filter.mp h).1
  obtain ⟨D, hD0⟩ := kn_all htw
  have ht2 := ht2_of hts
  obtain ⟨cA, hcA⟩ := kn_ty ht2
  have hK : va_K D cls (tyL cA) s := ⟨hD0, hcA⟩
  generalize hbs : s.heap.size = base at hbl
  have hA0 : ∀ a : Nat, a < s.heap.size → ¬ (fun q : Nat => base ≤ q) a := fun a h z => by have z : base ≤ a := z; omega
  obtain ⟨t24, hz24⟩ := tab24 (A := fun q : Nat => base ≤ q) hgv hts hA0
  obtain ⟨t25, hz25⟩ := tab25 (A := fun q : Nat => base ≤ q) hgv hts hA0
  obtain ⟨t26, hz26⟩ := tab26 (A := fun q : Nat => base ≤ q) hgv hts hA0
  obtain ⟨t27, hz27⟩ := tab27 (A := fun q : Nat => base ≤ q) hgv hts hA0
  obtain ⟨t28, hz28⟩ := tab28 (A := fun q : Nat => base ≤ q) hgv hts hA0
  obtain ⟨t29, hz29⟩ := tab29 (A := fun q : Nat => base ≤ q) hgv hts hA0
  obtain ⟨t30, hz30⟩ := tab30 (A := fun q : Nat => base ≤ q) hgv hts hA0
  obtain ⟨t31, hz31⟩ := tab31 (A := fun q : Nat => base ≤ q) hgv hts hA0
  have hZ : Stx base (fun o => if o = 40 then b else ([t24, t25, t26, t27, t28, t29, t30, t31] : List Nat).getD (o - 24) 0) L xs s s.heap := by
    refine ⟨fun q hq => ?_, (nst_of hts).1, (nst_of hts).2, hX, hbl, by rw [hbs]; exact hbl, hL⟩
    unfold staL at hq
    simp only [List.mem_cons, List.not_mem_nil, or_false] at hq
    rcases hq with rfl | rfl | rfl | rfl | rfl | rfl | rfl | rfl
    · exact hz24
    · exact hz25
    · exact hz26
    · exact hz27
    · exact hz28
    · exact hz29
    · exact hz30
    · exact hz31
  have had : (fun o => if o = 40 then b else ([t24, t25, t26, t27, t28, t29, t30, t31] : List Nat).getD (o - 24) 0) 40 = b := rfl
  generalize (fun o => if o = 40 then b else ([t24, t25, t26, t27, t28, t29, t30, t31] : List Nat).getD (o - 24) 0) = ad at hZ had
  have hN := nst_C hts
  have hA : ∀ q : Nat, s.heap.size ≤ q → (fun q : Nat => base ≤ q) q := fun q h => by show base ≤ q; omega
  have hP : va_P D cls [] s.heap := fun k q h => (by cases h)
  have hD : va_D (fun q : Nat => base ≤ q) [] := ⟨fun i j p q h => (by cases h), fun k q h => (by cases h)⟩
  have hS : va_S (fun q : Nat => base ≤ q) s.heap s.heap [] := va_S.rf
  have hl := lv_entry ([.ref b]) (n := 4) (Nat.le_of_ble_eq_true rfl)
  rw [lg_entry_eq]
  generalize (lg_sl ([.ref b]) ++ List.replicate (4 - (lg_sl ([.ref b])).length) Slot.unset).toArray = ls at hl ⊢
  have hl : lv_has ls 4 [(0, .ref b)] := hl
  refine va_new (ci := 0) (fs := [.null, .null, .null, .null, .int 0]) (C := cn 0) (T := FT 0) (N := nfl 0) hx hb htw (f_uws 0 (by decide)) (fty 0) (f_fty 0 (by decide)) hown (htw _ kL7) (htw _ ks0) (htw _ kn0) hK hP hD hS hA (f_cls 0 (by decide)) (fun j hj => by have hj : j < 5 := hj; rcases (show j = 0 ∨ j = 1 ∨ j = 2 ∨ j = 3 ∨ j = 4 by omega) with rfl | rfl | rfl | rfl | rfl <;> rfl) (Nat.le_of_ble_eq_true rfl) (Nat.le_of_ble_eq_true rfl) dL_0 (fun a0 H hP hD hS => ?_)
  refine lv_dup hx hb dL_3 rfl ?_
  have pre : ∀ (H : Heap) (locs : List Loc), va_S (fun q : Nat => base ≤ q) s.heap H locs → ∀ U : State, U.heap = H → s.WarmedH U.vm → Stx base ad L xs U U.heap ∧ base ≤ U.heap.size := fun H locs hS U hU hW => ⟨hZ.move hW (by rw [hU]; exact hS.1) (fun a h1 h2 => by rw [hU]; exact hS.2.1 a h1 h2), by rw [hU, ← hbs]; exact hS.1⟩
  refine va_callv (va_runI (As := []) (rest := [.ref a0]) ⟨hx, hb, hml, hown, ht2⟩ (c_Class l D cA ad base L xs a0) (cwI 0 ht2 gc0 rfl rfl rfl (htw _ kn0) (htw _ kL9) (htw _ ki0) rfl (by decide +kernel) ⟨Nat.le_of_ble_eq_true rfl, Nat.le_of_ble_eq_true rfl⟩) ⟨fun _ _ _ _ q => q, fun U hU hW => ⟨rfl, by rw [hU]; exact hP, hD, va_K.moved hW.alike hK, (pre _ _ hS U hU hW).1, nstC.warm hW hN, (pre _ _ hS U hU hW).2⟩⟩ rfl rfl hl.1 rfl (lv_room (Nat.le_of_ble_eq_true rfl)) dL_4 ⟨Nat.le_of_ble_eq_true rfl, Nat.le_of_ble_eq_true rfl⟩) hS (fun q _ h => h) (fun q h => h) (fun u t H1 locs ht hvm hpo hB hz1 hk1 hS => ?_)
  obtain ⟨⟨e0, e14⟩, hcl⟩ := hpo
  obtain ⟨hP1, hD1, hsc⟩ := hB
  rw [ht] at hP1
  obtain ⟨ad1, h1⟩ := u
  have e0 : ad1 0 = a0 := e0
  have e14 : ∀ o, 14 ≤ o → ad1 o = ad o := e14
  refine lv_astore_n hx hb dL_7 rfl hl (by decide) rfl (fun ls1 hl1 => ?_)
  have hl1 : lv_has ls1 4 [(1, .ref a0), (0, .ref b)] := hl1
  have hZ1 : Stx base ad1 L xs s s.heap := hZ.ad e14
  refine va_new (ci := 5) (fs := [.null, .null, .null, .null, .int 0, .int 0, .null, .null, .null, .null, .null, .int 0, .int 0]) (C := cn 5) (T := FT 5) (N := nfl 5) hx hb htw (f_uws 5 (by decide)) (fty 5) (f_fty 5 (by decide)) hown (htw _ kL10) (htw _ ks5) (htw _ kn5) hK hP1 hD1 hS hA (f_cls 5 (by decide)) (fun j hj => by have hj : j < 13 := hj; rcases (show j = 0 ∨ j = 1 ∨ j = 2 ∨ j = 3 ∨ j = 4 ∨ j = 5 ∨ j = 6 ∨ j = 7 ∨ j = 8 ∨ j = 9 ∨ j = 10 ∨ j = 11 ∨ j = 12 by omega) with rfl | rfl | rfl | rfl | rfl | rfl | rfl | rfl | rfl | rfl | rfl | rfl | rfl <;> rfl) (Nat.le_of_ble_eq_true rfl) (Nat.le_of_ble_eq_true rfl) dL_8 (fun a14 H hP hD hS => ?_)
  refine lv_dup hx hb dL_11 rfl ?_
  have pre1 : ∀ (H : Heap) (locs : List Loc), va_S (fun q : Nat => base ≤ q) s.heap H locs → ∀ U : State, U.heap = H → s.WarmedH U.vm → Stx base ad1 L xs U U.heap ∧ base ≤ U.heap.size := fun H locs hS U hU hW => ⟨hZ1.move hW (by rw [hU]; exact hS.1) (fun a h1 h2 => by rw [hU]; exact hS.2.1 a h1 h2), by rw [hU, ← hbs]; exact hS.1⟩
  refine va_callv (va_runI (As := []) (rest := [.ref a14]) ⟨hx, hb, hml, hown, ht2⟩ (c_Model l D cA ad1 base L xs a14 h1 hcl hsc) (cwI 0 ht2 gc5 rfl rfl rfl (htw _ kn5) (htw _ kL12) (htw _ ki5) rfl (by decide +kernel) ⟨Nat.le_of_ble_eq_true rfl, Nat.le_of_ble_eq_true rfl⟩) ⟨fun _ _ _ _ q => q, fun U hU hW => ⟨rfl, by rw [hU]; exact hP, hD, va_K.moved hW.alike hK, (pre1 _ _ hS U hU hW).1, (pre1 _ _ hS U hU hW).2⟩⟩ rfl rfl hl1.1 rfl (lv_room (Nat.le_of_ble_eq_true rfl)) dL_12 ⟨Nat.le_of_ble_eq_true rfl, Nat.le_of_ble_eq_true rfl⟩) hS (fun q _ h => h) (fun q h => h) (fun u t H1 locs ht hvm hpo hB hz1 hk1 hS => ?_)
  obtain ⟨⟨f14, f0, f24⟩, hgi⟩ := hpo
  obtain ⟨hP2, hD2, hsc2⟩ := hB
  rw [ht] at hP2
  obtain ⟨ad2, h2⟩ := u
  have f14 : ad2 14 = a14 := f14
  have f0 : ∀ o, o < 14 → ad2 o = ad1 o := f0
  have f24 : ∀ o, 24 ≤ o → ad2 o = ad1 o := f24
  refine lv_astore_n hx hb dL_15 rfl hl1 (by decide) rfl (fun ls2 hl2 => ?_)
  have hl2 : lv_has ls2 4 [(2, .ref a14), (1, .ref a0), (0, .ref b)] := hl2
  have e40 : ad1 40 = b := by
    rw [e14 40 (by decide)]
    exact had
  have hZ2 : Stx base ad2 L xs s s.heap := by
    obtain ⟨z1, z2, z3, z4, z5, z6, z7⟩ := hZ1
    have e4 : ad2 40 = ad1 40 := f24 40 (by decide)
    refine ⟨fun q hq => ?_, z2, z3, by rw [e4]; exact z4, by rw [e4]; exact z5, by rw [e4]; exact z6, z7⟩
    have h24 : 24 ≤ q.2.2.2 := (show ∀ q ∈ staL, 24 ≤ q.2.2.2 by decide) q hq
    rw [f24 _ h24]
    exact z1 q hq
  have hLH : LH ad2 24 4 [some (.inr (.inr 40)), some (.inr (.inr 0)), some (.inr (.inr 14)), none] ls2 := by
    refine ⟨hl2.1, hl2.2.1, rfl, fun k v hk => ?_⟩
    have c0 : cv ad2 (.inr (.inr 40)) = .ref b := by show Value.ref (ad2 40) = _; rw [f24 40 (by decide), e40]
    have c1 : cv ad2 (.inr (.inr 0)) = .ref a0 := by show Value.ref (ad2 0) = _; rw [f0 0 (by decide), e0]
    have c2 : cv ad2 (.inr (.inr 14)) = .ref a14 := by show Value.ref (ad2 14) = _; rw [f14]
    rcases k with _ | _ | _ | _ | k
    · cases (show some (Sum.inr (Sum.inr 40)) = some v from hk)
      exact ⟨Or.inr (by decide), by rw [c0]; exact hl2.2.2 (0, .ref b) (by simp)⟩
    · cases (show some (Sum.inr (Sum.inr 0)) = some v from hk)
      exact ⟨Or.inl (by decide), by rw [c1]; exact hl2.2.2 (1, .ref a0) (by simp)⟩
    · cases (show some (Sum.inr (Sum.inr 14)) = some v from hk)
      exact ⟨Or.inl (by decide), by rw [c2]; exact hl2.2.2 (2, .ref a14) (by simp)⟩
    · cases hk
    · cases hk
  have key := law_16 (S := scrH L xs) (L := L) (d := 0) (h := h2) (Q := fun r _ => r = some (.inl 1)) (by omega) rfl (fun j _ _ => ?_) (fun _ _ _ => rfl) hgi
  · exact key (Sim D cA ad2 base 24 4 L xs p l e room_1 s m #[Value.ref b] below meth c 24 8824 (lw_Z below #[Value.ref b] s))
      (fun pc st ls h hwi => sim_blk (Q := fun r _ => r = some (.inl 1)) (rk := 2) (own := 9) hx hb hml htw hown hK hZ2 (Or.inr rfl) ⟨by decide, by decide⟩ ⟨by decide, by decide⟩ (simM (Or.inr rfl) 11)
        (fun pc lsC H locs h v hd hrk hq hH => by
          cases hq
          exact va_forget (fun q hq => by rw [hbs]; exact hH.2.2.1.2.2 q hq) (lw_ret hx hb hr hlocks hd))
        (fun _ _ _ _ _ _ hrk => by cases hrk)
        (fun _ _ _ _ z => z) (mbk 131 pc) pc st ls h (lkB_ok pc ok131) hwi)
      ls2 H1 locs (fun v hv => by cases hv) hLH ⟨hP2, hD2, hS, hsc2⟩
  · show inR ((xs j.toNat).toInt)
    have h1 := (xs j.toNat).minValue_le_toInt
    have h2 := (xs j.toNat).toInt_le
    have e1 : Int32.minValue.toInt = -2147483648 := by decide
    have e2 : Int32.maxValue.toInt = 2147483647 := by decide
    unfold inR
    omega
