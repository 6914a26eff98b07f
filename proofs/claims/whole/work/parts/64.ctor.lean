/-! The constructors, by the kit's rows. -/
def WA : List Cond := [.arrayClass .int, .arrayClass .long, .arrayClass .byte, .arrayClass .short]
def WS2 : List Cond := WS ++ WA
theorem f_good2 : ∀ w ∈ WS2, (w.onTables && w.keeps) = true ∨ ∃ ty, w = .arrayClass ty := by
  intro w hw
  rcases List.mem_append.mp hw with h | h
  · exact Or.inl (f_good w h)
  · right
    unfold WA at h
    simp only [List.mem_cons, List.not_mem_nil, or_false] at h
    rcases h with rfl | rfl | rfl | rfl
    · exact ⟨_, rfl⟩
    · exact ⟨_, rfl⟩
    · exact ⟨_, rfl⟩
    · exact ⟨_, rfl⟩
abbrev bc0 : ByteArray := prog_1_method_1_code
def yc0 : MethodName := ⟨cn 0, "<init>", "()V"⟩
def wc0 : List Cond := .code yc0 bc0 1 none :: WS2
theorem kc0 : Cond.code yc0 bc0 1 none ∈ WS := memC1 (i := 15) rfl rfl
theorem gc0 : GoodIn WS2 wc0 := by
  intro w hw
  have h1 : w ∈ WS2 := by
    rcases List.mem_cons.mp hw with rfl | hw
    · exact List.mem_append_left _ kc0
    · exact hw
  exact ⟨h1, f_good2 w h1⟩
theorem kn0 : Cond.initialized (cn 0) ∈ WS := atW_mem (i := 1) (by decide +kernel)
theorem ki0 : Cond.instanceMethod yc0 ∈ WS := atW_mem (i := 14) (by decide +kernel)
theorem ks0 : Cond.instantiable (cn 0) 5 ∈ WS := atW_mem (i := 12) (by decide +kernel)
theorem ko0 : Cond.methodLink (cn 0) 3 objectInit ∈ WS := atW_mem (i := 16) (by decide +kernel)
abbrev bc1 : ByteArray := prog_6_method_1_code
def yc1 : MethodName := ⟨cn 1, "<init>", "()V"⟩
def wc1 : List Cond := .code yc1 bc1 1 none :: WS2
theorem kc1 : Cond.code yc1 bc1 1 none ∈ WS := memC1 (i := 23) rfl rfl
theorem gc1 : GoodIn WS2 wc1 := by
  intro w hw
  have h1 : w ∈ WS2 := by
    rcases List.mem_cons.mp hw with rfl | hw
    · exact List.mem_append_left _ kc1
    · exact hw
  exact ⟨h1, f_good2 w h1⟩
theorem kn1 : Cond.initialized (cn 1) ∈ WS := atW_mem (i := 2) (by decide +kernel)
theorem ki1 : Cond.instanceMethod yc1 ∈ WS := atW_mem (i := 22) (by decide +kernel)
theorem ks1 : Cond.instantiable (cn 1) 6 ∈ WS := atW_mem (i := 20) (by decide +kernel)
theorem ko1 : Cond.methodLink (cn 1) 3 objectInit ∈ WS := atW_mem (i := 24) (by decide +kernel)
abbrev bc2 : ByteArray := prog_2_method_1_code
def yc2 : MethodName := ⟨cn 2, "<init>", "()V"⟩
def wc2 : List Cond := .code yc2 bc2 1 none :: WS2
theorem kc2 : Cond.code yc2 bc2 1 none ∈ WS := memC1 (i := 29) rfl rfl
theorem gc2 : GoodIn WS2 wc2 := by
  intro w hw
  have h1 : w ∈ WS2 := by
    rcases List.mem_cons.mp hw with rfl | hw
    · exact List.mem_append_left _ kc2
    · exact hw
  exact ⟨h1, f_good2 w h1⟩
theorem kn2 : Cond.initialized (cn 2) ∈ WS := atW_mem (i := 3) (by decide +kernel)
theorem ki2 : Cond.instanceMethod yc2 ∈ WS := atW_mem (i := 28) (by decide +kernel)
theorem ks2 : Cond.instantiable (cn 2) 1 ∈ WS := atW_mem (i := 26) (by decide +kernel)
theorem ko2 : Cond.methodLink (cn 2) 3 objectInit ∈ WS := atW_mem (i := 30) (by decide +kernel)
abbrev bc3 : ByteArray := prog_5_method_1_code
def yc3 : MethodName := ⟨cn 3, "<init>", "()V"⟩
def wc3 : List Cond := .code yc3 bc3 1 none :: WS2
theorem kc3 : Cond.code yc3 bc3 1 none ∈ WS := memC1 (i := 76) rfl rfl
theorem gc3 : GoodIn WS2 wc3 := by
  intro w hw
  have h1 : w ∈ WS2 := by
    rcases List.mem_cons.mp hw with rfl | hw
    · exact List.mem_append_left _ kc3
    · exact hw
  exact ⟨h1, f_good2 w h1⟩
theorem kn3 : Cond.initialized (cn 3) ∈ WS := atW_mem (i := 4) (by decide +kernel)
theorem ki3 : Cond.instanceMethod yc3 ∈ WS := atW_mem (i := 75) (by decide +kernel)
theorem ks3 : Cond.instantiable (cn 3) 2 ∈ WS := atW_mem (i := 73) (by decide +kernel)
theorem ko3 : Cond.methodLink (cn 3) 3 objectInit ∈ WS := atW_mem (i := 77) (by decide +kernel)
abbrev bc4 : ByteArray := prog_3_method_1_code
def yc4 : MethodName := ⟨cn 4, "<init>", "()V"⟩
def wc4 : List Cond := .code yc4 bc4 1 none :: WS2
theorem kc4 : Cond.code yc4 bc4 1 none ∈ WS := memC1 (i := 91) rfl rfl
theorem gc4 : GoodIn WS2 wc4 := by
  intro w hw
  have h1 : w ∈ WS2 := by
    rcases List.mem_cons.mp hw with rfl | hw
    · exact List.mem_append_left _ kc4
    · exact hw
  exact ⟨h1, f_good2 w h1⟩
theorem kn4 : Cond.initialized (cn 4) ∈ WS := atW_mem (i := 5) (by decide +kernel)
theorem ki4 : Cond.instanceMethod yc4 ∈ WS := atW_mem (i := 90) (by decide +kernel)
theorem ks4 : Cond.instantiable (cn 4) 5 ∈ WS := atW_mem (i := 88) (by decide +kernel)
theorem ko4 : Cond.methodLink (cn 4) 3 objectInit ∈ WS := atW_mem (i := 92) (by decide +kernel)
abbrev bc5 : ByteArray := prog_9_method_1_code
def yc5 : MethodName := ⟨cn 5, "<init>", "()V"⟩
def wc5 : List Cond := .code yc5 bc5 1 none :: WS2
theorem kc5 : Cond.code yc5 bc5 1 none ∈ WS := memC3 (i := 6) rfl rfl
theorem gc5 : GoodIn WS2 wc5 := by
  intro w hw
  have h1 : w ∈ WS2 := by
    rcases List.mem_cons.mp hw with rfl | hw
    · exact List.mem_append_left _ kc5
    · exact hw
  exact ⟨h1, f_good2 w h1⟩
theorem kn5 : Cond.initialized (cn 5) ∈ WS := atW_mem (i := 9) (by decide +kernel)
theorem ki5 : Cond.instanceMethod yc5 ∈ WS := atW_mem (i := 485) (by decide +kernel)
theorem ks5 : Cond.instantiable (cn 5) 13 ∈ WS := atW_mem (i := 483) (by decide +kernel)
theorem ko5 : Cond.methodLink (cn 5) 1 objectInit ∈ WS := atW_mem (i := 487) (by decide +kernel)
theorem kob : Cond.instanceMethod objectInit ∈ WS := atW_mem (i := 17) (by decide +kernel)
theorem koc : Cond.code objectInit ⟨#[0xb1]⟩ 1 none ∈ WS := atW_mem (i := 18) (by decide +kernel)
theorem ka_int : Cond.arrayClass .int ∈ WS2 := List.mem_append_right _ (List.mem_of_getElem? (i := 0) rfl)
theorem ka_long : Cond.arrayClass .long ∈ WS2 := List.mem_append_right _ (List.mem_of_getElem? (i := 1) rfl)
theorem ka_byte : Cond.arrayClass .byte ∈ WS2 := List.mem_append_right _ (List.mem_of_getElem? (i := 2) rfl)
theorem ka_short : Cond.arrayClass .short ∈ WS2 := List.mem_append_right _ (List.mem_of_getElem? (i := 3) rfl)
theorem kl0_9 : Cond.classLink (cn 0) 9 (cn 1) ∈ WS := atW_mem (i := 19) (by decide +kernel)
theorem kl0_16 : Cond.classLink (cn 0) 16 (cn 3) ∈ WS := atW_mem (i := 72) (by decide +kernel)
theorem kl0_26 : Cond.classLink (cn 0) 26 (cn 4) ∈ WS := atW_mem (i := 87) (by decide +kernel)
theorem kl1_9 : Cond.classLink (cn 1) 9 (cn 2) ∈ WS := atW_mem (i := 25) (by decide +kernel)
def nstC (U : State) : Prop := va_Nw (.methodLinkNest (cn 0) 11 yc1 hostN) U ∧ va_Nw (.methodLinkNest (cn 0) 18 yc3 hostN) U ∧ va_Nw (.methodLinkNest (cn 0) 28 yc4 hostN) U ∧ va_Nw (.methodLinkNest (cn 1) 11 yc2 hostN) U
theorem nstC.warm {s U : State} (hW : s.WarmedH U.vm) (h : nstC s) : nstC U := ⟨va_Nw.warmM hW h.1, va_Nw.warmM hW h.2.1, va_Nw.warmM hW h.2.2.1, va_Nw.warmM hW h.2.2.2⟩
theorem nstC.same {s U : State} (hv : s.vm = U.vm) (h : nstC s) : nstC U := ⟨va_Nw.same rfl hv h.1, va_Nw.same rfl hv h.2.1, va_Nw.same rfl hv h.2.2.1, va_Nw.same rfl hv h.2.2.2⟩
theorem arr_int {D : va_G} {cA : Nat → ClassId} {c : ClassId} {s : State} (h : va_K D cls (tyL cA ++ [(c, .int)]) s) : c = cA 2 := Option.some.inj ((va_nm_int (h.2 4 _ rfl).2).symm.trans (va_nm_int (h.2 0 _ rfl).2))
theorem arr_byte {D : va_G} {cA : Nat → ClassId} {c : ClassId} {s : State} (h : va_K D cls (tyL cA ++ [(c, .byte)]) s) : c = cA 3 := Option.some.inj ((va_nm_byte (h.2 4 _ rfl).2).symm.trans (va_nm_byte (h.2 1 _ rfl).2))
theorem arr_short {D : va_G} {cA : Nat → ClassId} {c : ClassId} {s : State} (h : va_K D cls (tyL cA ++ [(c, .short)]) s) : c = cA 4 := Option.some.inj ((show s.vm.findClass ("[" ++ FieldType.short.toString) = some c from (h.2 4 _ rfl).2).symm.trans (h.2 2 _ rfl).2)
theorem arr_long {D : va_G} {cA : Nat → ClassId} {c : ClassId} {s : State} (h : va_K D cls (tyL cA ++ [(c, .long)]) s) : c = cA 5 := Option.some.inj ((va_nm_long (h.2 4 _ rfl).2).symm.trans (va_nm_long (h.2 3 _ rfl).2))
theorem dc0_0 : decode bc0 0 = .ok (.aload_n 0, 1) := by decide +kernel
theorem dc0_1 : decode bc0 1 = .ok (.invokespecial 3, 3) := by decide +kernel
theorem dc0_4 : decode bc0 4 = .ok (.aload_n 0, 1) := by decide +kernel
theorem dc0_5 : decode bc0 5 = .ok (.new 9, 3) := by decide +kernel
theorem dc0_8 : decode bc0 8 = .ok (.dup, 1) := by decide +kernel
theorem dc0_9 : decode bc0 9 = .ok (.invokespecial 11, 3) := by decide +kernel
theorem dc0_12 : decode bc0 12 = .ok (.putfield 12, 3) := by decide +kernel
theorem dc0_15 : decode bc0 15 = .ok (.aload_n 0, 1) := by decide +kernel
theorem dc0_16 : decode bc0 16 = .ok (.new 16, 3) := by decide +kernel
theorem dc0_19 : decode bc0 19 = .ok (.dup, 1) := by decide +kernel
theorem dc0_20 : decode bc0 20 = .ok (.invokespecial 18, 3) := by decide +kernel
theorem dc0_23 : decode bc0 23 = .ok (.putfield 19, 3) := by decide +kernel
theorem dc0_26 : decode bc0 26 = .ok (.aload_n 0, 1) := by decide +kernel
theorem dc0_27 : decode bc0 27 = .ok (.new 16, 3) := by decide +kernel
theorem dc0_30 : decode bc0 30 = .ok (.dup, 1) := by decide +kernel
theorem dc0_31 : decode bc0 31 = .ok (.invokespecial 18, 3) := by decide +kernel
theorem dc0_34 : decode bc0 34 = .ok (.putfield 23, 3) := by decide +kernel
theorem dc0_37 : decode bc0 37 = .ok (.aload_n 0, 1) := by decide +kernel
theorem dc0_38 : decode bc0 38 = .ok (.new 26, 3) := by decide +kernel
theorem dc0_41 : decode bc0 41 = .ok (.dup, 1) := by decide +kernel
theorem dc0_42 : decode bc0 42 = .ok (.invokespecial 28, 3) := by decide +kernel
theorem dc0_45 : decode bc0 45 = .ok (.putfield 29, 3) := by decide +kernel
theorem dc0_48 : decode bc0 48 = .ok (.aload_n 0, 1) := by decide +kernel
theorem dc0_49 : decode bc0 49 = .ok (.getfield 12, 3) := by decide +kernel
theorem dc0_52 : decode bc0 52 = .ok (.getfield 33, 3) := by decide +kernel
theorem dc0_55 : decode bc0 55 = .ok (.invokevirtual 37, 3) := by decide +kernel
theorem dc0_58 : decode bc0 58 = .ok (.aload_n 0, 1) := by decide +kernel
theorem dc0_59 : decode bc0 59 = .ok (.iconst 0, 1) := by decide +kernel
theorem dc0_60 : decode bc0 60 = .ok (.bipush 15, 2) := by decide +kernel
theorem dc0_62 : decode bc0 62 = .ok (.iconst (-1), 1) := by decide +kernel
theorem dc0_63 : decode bc0 63 = .ok (.invokevirtual 42, 3) := by decide +kernel
theorem dc0_66 : decode bc0 66 = .ok (.return_, 1) := by decide +kernel
theorem dc1_0 : decode bc1 0 = .ok (.aload_n 0, 1) := by decide +kernel
theorem dc1_1 : decode bc1 1 = .ok (.invokespecial 3, 3) := by decide +kernel
theorem dc1_4 : decode bc1 4 = .ok (.aload_n 0, 1) := by decide +kernel
theorem dc1_5 : decode bc1 5 = .ok (.new 9, 3) := by decide +kernel
theorem dc1_8 : decode bc1 8 = .ok (.dup, 1) := by decide +kernel
theorem dc1_9 : decode bc1 9 = .ok (.invokespecial 11, 3) := by decide +kernel
theorem dc1_12 : decode bc1 12 = .ok (.putfield 12, 3) := by decide +kernel
theorem dc1_15 : decode bc1 15 = .ok (.aload_n 0, 1) := by decide +kernel
theorem dc1_16 : decode bc1 16 = .ok (.iconst 2, 1) := by decide +kernel
theorem dc1_17 : decode bc1 17 = .ok (.newarray .int, 2) := by decide +kernel
theorem dc1_19 : decode bc1 19 = .ok (.putfield 18, 3) := by decide +kernel
theorem dc1_22 : decode bc1 22 = .ok (.return_, 1) := by decide +kernel
theorem dc2_0 : decode bc2 0 = .ok (.aload_n 0, 1) := by decide +kernel
theorem dc2_1 : decode bc2 1 = .ok (.invokespecial 3, 3) := by decide +kernel
theorem dc2_4 : decode bc2 4 = .ok (.aload_n 0, 1) := by decide +kernel
theorem dc2_5 : decode bc2 5 = .ok (.bipush 64, 2) := by decide +kernel
theorem dc2_7 : decode bc2 7 = .ok (.newarray .int, 2) := by decide +kernel
theorem dc2_9 : decode bc2 9 = .ok (.putfield 9, 3) := by decide +kernel
theorem dc2_12 : decode bc2 12 = .ok (.return_, 1) := by decide +kernel
theorem dc3_0 : decode bc3 0 = .ok (.aload_n 0, 1) := by decide +kernel
theorem dc3_1 : decode bc3 1 = .ok (.invokespecial 3, 3) := by decide +kernel
theorem dc3_4 : decode bc3 4 = .ok (.aload_n 0, 1) := by decide +kernel
theorem dc3_5 : decode bc3 5 = .ok (.sipush 415, 3) := by decide +kernel
theorem dc3_8 : decode bc3 8 = .ok (.newarray .int, 2) := by decide +kernel
theorem dc3_10 : decode bc3 10 = .ok (.putfield 9, 3) := by decide +kernel
theorem dc3_13 : decode bc3 13 = .ok (.return_, 1) := by decide +kernel
theorem dc4_0 : decode bc4 0 = .ok (.aload_n 0, 1) := by decide +kernel
theorem dc4_1 : decode bc4 1 = .ok (.invokespecial 3, 3) := by decide +kernel
theorem dc4_4 : decode bc4 4 = .ok (.aload_n 0, 1) := by decide +kernel
theorem dc4_5 : decode bc4 5 = .ok (.sipush 512, 3) := by decide +kernel
theorem dc4_8 : decode bc4 8 = .ok (.newarray .int, 2) := by decide +kernel
theorem dc4_10 : decode bc4 10 = .ok (.putfield 9, 3) := by decide +kernel
theorem dc4_13 : decode bc4 13 = .ok (.aload_n 0, 1) := by decide +kernel
theorem dc4_14 : decode bc4 14 = .ok (.sipush 512, 3) := by decide +kernel
theorem dc4_17 : decode bc4 17 = .ok (.newarray .int, 2) := by decide +kernel
theorem dc4_19 : decode bc4 19 = .ok (.putfield 15, 3) := by decide +kernel
theorem dc4_22 : decode bc4 22 = .ok (.aload_n 0, 1) := by decide +kernel
theorem dc4_23 : decode bc4 23 = .ok (.sipush 2052, 3) := by decide +kernel
theorem dc4_26 : decode bc4 26 = .ok (.newarray .long, 2) := by decide +kernel
theorem dc4_28 : decode bc4 28 = .ok (.putfield 18, 3) := by decide +kernel
theorem dc4_31 : decode bc4 31 = .ok (.aload_n 0, 1) := by decide +kernel
theorem dc4_32 : decode bc4 32 = .ok (.sipush 513, 3) := by decide +kernel
theorem dc4_35 : decode bc4 35 = .ok (.newarray .int, 2) := by decide +kernel
theorem dc4_37 : decode bc4 37 = .ok (.putfield 22, 3) := by decide +kernel
theorem dc4_40 : decode bc4 40 = .ok (.return_, 1) := by decide +kernel
theorem dc5_0 : decode bc5 0 = .ok (.aload_n 0, 1) := by decide +kernel
theorem dc5_1 : decode bc5 1 = .ok (.invokespecial 1, 3) := by decide +kernel
theorem dc5_4 : decode bc5 4 = .ok (.aload_n 0, 1) := by decide +kernel
theorem dc5_5 : decode bc5 5 = .ok (.sipush 192, 3) := by decide +kernel
theorem dc5_8 : decode bc5 8 = .ok (.newarray .int, 2) := by decide +kernel
theorem dc5_10 : decode bc5 10 = .ok (.putfield 7, 3) := by decide +kernel
theorem dc5_13 : decode bc5 13 = .ok (.aload_n 0, 1) := by decide +kernel
theorem dc5_14 : decode bc5 14 = .ok (.iconst 3, 1) := by decide +kernel
theorem dc5_15 : decode bc5 15 = .ok (.newarray .int, 2) := by decide +kernel
theorem dc5_17 : decode bc5 17 = .ok (.putfield 13, 3) := by decide +kernel
theorem dc5_20 : decode bc5 20 = .ok (.aload_n 0, 1) := by decide +kernel
theorem dc5_21 : decode bc5 21 = .ok (.iconst 3, 1) := by decide +kernel
theorem dc5_22 : decode bc5 22 = .ok (.newarray .int, 2) := by decide +kernel
theorem dc5_24 : decode bc5 24 = .ok (.putfield 16, 3) := by decide +kernel
theorem dc5_27 : decode bc5 27 = .ok (.aload_n 0, 1) := by decide +kernel
theorem dc5_28 : decode bc5 28 = .ok (.iconst 3, 1) := by decide +kernel
theorem dc5_29 : decode bc5 29 = .ok (.newarray .int, 2) := by decide +kernel
theorem dc5_31 : decode bc5 31 = .ok (.putfield 19, 3) := by decide +kernel
theorem dc5_34 : decode bc5 34 = .ok (.aload_n 0, 1) := by decide +kernel
theorem dc5_35 : decode bc5 35 = .ok (.sipush 2052, 3) := by decide +kernel
theorem dc5_38 : decode bc5 38 = .ok (.newarray .long, 2) := by decide +kernel
theorem dc5_40 : decode bc5 40 = .ok (.putfield 22, 3) := by decide +kernel
theorem dc5_43 : decode bc5 43 = .ok (.aload_n 0, 1) := by decide +kernel
theorem dc5_44 : decode bc5 44 = .ok (.sipush 513, 3) := by decide +kernel
theorem dc5_47 : decode bc5 47 = .ok (.newarray .byte, 2) := by decide +kernel
theorem dc5_49 : decode bc5 49 = .ok (.putfield 26, 3) := by decide +kernel
theorem dc5_52 : decode bc5 52 = .ok (.aload_n 0, 1) := by decide +kernel
theorem dc5_53 : decode bc5 53 = .ok (.sipush 513, 3) := by decide +kernel
theorem dc5_56 : decode bc5 56 = .ok (.newarray .byte, 2) := by decide +kernel
theorem dc5_58 : decode bc5 58 = .ok (.putfield 30, 3) := by decide +kernel
theorem dc5_61 : decode bc5 61 = .ok (.aload_n 0, 1) := by decide +kernel
theorem dc5_62 : decode bc5 62 = .ok (.sipush 513, 3) := by decide +kernel
theorem dc5_65 : decode bc5 65 = .ok (.newarray .byte, 2) := by decide +kernel
theorem dc5_67 : decode bc5 67 = .ok (.putfield 33, 3) := by decide +kernel
theorem dc5_70 : decode bc5 70 = .ok (.aload_n 0, 1) := by decide +kernel
theorem dc5_71 : decode bc5 71 = .ok (.sipush 513, 3) := by decide +kernel
theorem dc5_74 : decode bc5 74 = .ok (.newarray .short, 2) := by decide +kernel
theorem dc5_76 : decode bc5 76 = .ok (.putfield 36, 3) := by decide +kernel
theorem dc5_79 : decode bc5 79 = .ok (.aload_n 0, 1) := by decide +kernel
theorem dc5_80 : decode bc5 80 = .ok (.invokevirtual 40, 3) := by decide +kernel
theorem dc5_83 : decode bc5 83 = .ok (.return_, 1) := by decide +kernel
def at2 (D : va_G) (cA : Nat → ClassId) (h0 : Nat) (A : Nat → Prop) : Nat → State → Prop := fun q1 t => va_P D cls [(h0, .inr (2, [.ref q1])), (q1, .inl (cA 2, 64, .inl (fun _ => 0)))] t.heap ∧ va_D A [(h0, .inr (2, [.ref q1])), (q1, .inl (cA 2, 64, .inl (fun _ => 0)))]
set_option maxHeartbeats 4000000 in
set_option maxRecDepth 100000 in
theorem c_Board (l : Launch) (D : va_G) (cA : Nat → ClassId) (h0 sz : Nat) : Met l yc2 wc2 ({ frames := 1, cells := 1, slots := 64, locals := 12 }) (va_Pc [.ref h0] (fun U => U.heap.size = sz ∧ va_P D cls [(h0, .inr (2, [.null]))] U.heap ∧ va_K D cls (tyL cA) U ∧ va_D (fun _ => True) [(h0, .inr (2, [.null]))])) (va_Qv (fun _ : Nat => True) (at2 D cA h0 (va_A [(h0, .inr (2, [.null]))] sz)) (va_A [(h0, .inr (2, [.null]))] sz)) 1 64 (va_A [(h0, .inr (2, [.null]))] sz) := by
  refine Met.ofW (cc := bc2) (maxL := 1) (ret := none) (by decide) rfl ?_
  intro p e s m args below meth c s₁ B hml hv
  obtain ⟨rfl, hsz, hP, hK, hD0⟩ := hv
  have hx := B.exec
  have hb := B.bytes
  have hr := B.returns
  have hts := atoms_spec (ws := wc2) B.pre
  have ht2 := fun (w : Cond) (h : w ∈ WS2) => hts w (List.mem_cons_of_mem _ h)
  have htw := fun (w : Cond) (h : w ∈ WS) => ht2 w (List.mem_append_left _ h)
  have hown : s.vm.findClass (cn 2) = some m.cls := findClass_of_methodNamed B.named
  have hlocks := B.notSynchronized
  have hin : meth.name = "<init>" := (name_of_methodNamed B.named B.method).1
  subst hsz
  have hD := hD0.self (sz := s.heap.size)
  generalize hAe : va_A [(h0, .inr (2, [.null]))] s.heap.size = A at hD ⊢
  have hA : ∀ q : Nat, s.heap.size ≤ q → A q := fun q h => by rw [← hAe]; exact Or.inr h
  have hS : va_S A s.heap s.heap [] := va_S.rf
  have hl := lv_entry ([.ref h0]) (n := 1) (Nat.le_of_ble_eq_true rfl)
  rw [lg_entry_eq]
  generalize (lg_sl ([.ref h0]) ++ List.replicate (1 - (lg_sl ([.ref h0])).length) Slot.unset).toArray = ls at hl ⊢
  have hl : lv_has ls 1 [(0, .ref h0)] := hl
  refine lv_aload_n hx hb dc2_0 rfl (lv_at hl 0 rfl) ?_
  refine W.objInit hx hb hown (htw _ ko2) (htw _ kob) (htw _ koc) rfl (by rw [hml]; exact hl.1) rfl dc2_1 (Nat.le_of_ble_eq_true rfl) (Nat.le_of_ble_eq_true rfl) ?_
  refine W.eq (g2 := F0 m 4 ls []) rfl ?_
  refine lv_aload_n hx hb dc2_4 rfl (lv_at hl 0 rfl) ?_
  refine lv_bipush (v := 64) hx hb dc2_5 (by decide) ?_
  refine va_newa (atype := .int) (ty := .int) (N' := 64) (a0 := (64, .inl (fun _ => 0))) hx hb (ht2 _ ka_int) rfl hK hP hD hS hA (fun _ => rfl) (by decide) (by decide) (by decide) (Nat.le_of_ble_eq_true rfl) (Nat.le_of_ble_eq_true rfl) dc2_7 (fun q1 ca H hK1 hP hD hS => ?_)
  obtain rfl : ca = cA 2 := arr_int hK1
  have hP : va_P D cls [(h0, .inr (2, [.null])), (q1, .inl (cA 2, 64, .inl (fun _ => 0)))] H := hP
  have hD : va_D A [(h0, .inr (2, [.null])), (q1, .inl (cA 2, 64, .inl (fun _ => 0)))] := hD
  refine va_putF (D := D) (ci := 2) (v := .ref q1) (ty := fty 2 0) (C := cn 2) (T := FT 2) (N := nfl 2) hx hb htw (f_uws 2 (by decide)) (fty 2) (f_fty 2 (by decide)) (f_fnm 2 (by decide)) hown hK hP hD hS 0 rfl (f_cls 2 (by decide)) 0 (by decide) (htw (fldW 2 9 2 0) (atW_mem (i := 31) (by decide +kernel))) (fun _ h9 => h9) rfl hin rfl (f_fty 2 (by decide) 0 (by decide)) rfl rfl (Nat.le_of_ble_eq_true rfl) dc2_9 (fun H locs hP hD hS => ?_)
  have hP : va_P D cls [(h0, .inr (2, [.ref q1])), (q1, .inl (cA 2, 64, .inl (fun _ => 0)))] H := hP
  have hD : va_D A [(h0, .inr (2, [.ref q1])), (q1, .inl (cA 2, 64, .inl (fun _ => 0)))] := hD
  exact W.vret hx hb hr (fun t ht hW => ⟨⟨q1, rfl, trivial, by rw [ht]; exact hP, hD⟩, hS.F ht⟩) hS.2.2 dc2_12
def at3 (D : va_G) (cA : Nat → ClassId) (h0 : Nat) (A : Nat → Prop) : Nat → State → Prop := fun q1 t => va_P D cls [(h0, .inr (3, [.ref q1, .int 0])), (q1, .inl (cA 2, 415, .inl (fun _ => 0)))] t.heap ∧ va_D A [(h0, .inr (3, [.ref q1, .int 0])), (q1, .inl (cA 2, 415, .inl (fun _ => 0)))]
set_option maxHeartbeats 4000000 in
set_option maxRecDepth 100000 in
theorem c_MoveRow (l : Launch) (D : va_G) (cA : Nat → ClassId) (h0 sz : Nat) : Met l yc3 wc3 ({ frames := 1, cells := 1, slots := 415, locals := 12 }) (va_Pc [.ref h0] (fun U => U.heap.size = sz ∧ va_P D cls [(h0, .inr (3, [.null, .int 0]))] U.heap ∧ va_K D cls (tyL cA) U ∧ va_D (fun _ => True) [(h0, .inr (3, [.null, .int 0]))])) (va_Qv (fun _ : Nat => True) (at3 D cA h0 (va_A [(h0, .inr (3, [.null, .int 0]))] sz)) (va_A [(h0, .inr (3, [.null, .int 0]))] sz)) 1 415 (va_A [(h0, .inr (3, [.null, .int 0]))] sz) := by
  refine Met.ofW (cc := bc3) (maxL := 1) (ret := none) (by decide) rfl ?_
  intro p e s m args below meth c s₁ B hml hv
  obtain ⟨rfl, hsz, hP, hK, hD0⟩ := hv
  have hx := B.exec
  have hb := B.bytes
  have hr := B.returns
  have hts := atoms_spec (ws := wc3) B.pre
  have ht2 := fun (w : Cond) (h : w ∈ WS2) => hts w (List.mem_cons_of_mem _ h)
  have htw := fun (w : Cond) (h : w ∈ WS) => ht2 w (List.mem_append_left _ h)
  have hown : s.vm.findClass (cn 3) = some m.cls := findClass_of_methodNamed B.named
  have hlocks := B.notSynchronized
  have hin : meth.name = "<init>" := (name_of_methodNamed B.named B.method).1
  subst hsz
  have hD := hD0.self (sz := s.heap.size)
  generalize hAe : va_A [(h0, .inr (3, [.null, .int 0]))] s.heap.size = A at hD ⊢
  have hA : ∀ q : Nat, s.heap.size ≤ q → A q := fun q h => by rw [← hAe]; exact Or.inr h
  have hS : va_S A s.heap s.heap [] := va_S.rf
  have hl := lv_entry ([.ref h0]) (n := 1) (Nat.le_of_ble_eq_true rfl)
  rw [lg_entry_eq]
  generalize (lg_sl ([.ref h0]) ++ List.replicate (1 - (lg_sl ([.ref h0])).length) Slot.unset).toArray = ls at hl ⊢
  have hl : lv_has ls 1 [(0, .ref h0)] := hl
  refine lv_aload_n hx hb dc3_0 rfl (lv_at hl 0 rfl) ?_
  refine W.objInit hx hb hown (htw _ ko3) (htw _ kob) (htw _ koc) rfl (by rw [hml]; exact hl.1) rfl dc3_1 (Nat.le_of_ble_eq_true rfl) (Nat.le_of_ble_eq_true rfl) ?_
  refine W.eq (g2 := F0 m 4 ls []) rfl ?_
  refine lv_aload_n hx hb dc3_4 rfl (lv_at hl 0 rfl) ?_
  refine lv_sipush (v := 415) hx hb dc3_5 (by decide) ?_
  refine va_newa (atype := .int) (ty := .int) (N' := 415) (a0 := (415, .inl (fun _ => 0))) hx hb (ht2 _ ka_int) rfl hK hP hD hS hA (fun _ => rfl) (by decide) (by decide) (by decide) (Nat.le_of_ble_eq_true rfl) (Nat.le_of_ble_eq_true rfl) dc3_8 (fun q1 ca H hK1 hP hD hS => ?_)
  obtain rfl : ca = cA 2 := arr_int hK1
  have hP : va_P D cls [(h0, .inr (3, [.null, .int 0])), (q1, .inl (cA 2, 415, .inl (fun _ => 0)))] H := hP
  have hD : va_D A [(h0, .inr (3, [.null, .int 0])), (q1, .inl (cA 2, 415, .inl (fun _ => 0)))] := hD
  refine va_putF (D := D) (ci := 3) (v := .ref q1) (ty := fty 3 0) (C := cn 3) (T := FT 3) (N := nfl 3) hx hb htw (f_uws 3 (by decide)) (fty 3) (f_fty 3 (by decide)) (f_fnm 3 (by decide)) hown hK hP hD hS 0 rfl (f_cls 3 (by decide)) 0 (by decide) (htw (fldW 3 9 3 0) (atW_mem (i := 78) (by decide +kernel))) (fun _ h9 => h9) rfl hin rfl (f_fty 3 (by decide) 0 (by decide)) rfl rfl (Nat.le_of_ble_eq_true rfl) dc3_10 (fun H locs hP hD hS => ?_)
  have hP : va_P D cls [(h0, .inr (3, [.ref q1, .int 0])), (q1, .inl (cA 2, 415, .inl (fun _ => 0)))] H := hP
  have hD : va_D A [(h0, .inr (3, [.ref q1, .int 0])), (q1, .inl (cA 2, 415, .inl (fun _ => 0)))] := hD
  exact W.vret hx hb hr (fun t ht hW => ⟨⟨q1, rfl, trivial, by rw [ht]; exact hP, hD⟩, hS.F ht⟩) hS.2.2 dc3_13
def at4 (D : va_G) (cA : Nat → ClassId) (h0 : Nat) (A : Nat → Prop) : Nat × Nat × Nat × Nat → State → Prop := fun ⟨q1, q2, q3, q4⟩ t => va_P D cls [(h0, .inr (4, [.ref q1, .ref q2, .ref q3, .ref q4, .int 0])), (q1, .inl (cA 2, 512, .inl (fun _ => 0))), (q2, .inl (cA 2, 512, .inl (fun _ => 0))), (q3, .inl (cA 5, 2052, .inr (.inl (fun _ => 0)))), (q4, .inl (cA 2, 513, .inl (fun _ => 0)))] t.heap ∧ va_D A [(h0, .inr (4, [.ref q1, .ref q2, .ref q3, .ref q4, .int 0])), (q1, .inl (cA 2, 512, .inl (fun _ => 0))), (q2, .inl (cA 2, 512, .inl (fun _ => 0))), (q3, .inl (cA 5, 2052, .inr (.inl (fun _ => 0)))), (q4, .inl (cA 2, 513, .inl (fun _ => 0)))]
set_option maxHeartbeats 4000000 in
set_option maxRecDepth 100000 in
theorem c_History (l : Launch) (D : va_G) (cA : Nat → ClassId) (h0 sz : Nat) : Met l yc4 wc4 ({ frames := 1, cells := 4, slots := 3589, locals := 12 }) (va_Pc [.ref h0] (fun U => U.heap.size = sz ∧ va_P D cls [(h0, .inr (4, [.null, .null, .null, .null, .int 0]))] U.heap ∧ va_K D cls (tyL cA) U ∧ va_D (fun _ => True) [(h0, .inr (4, [.null, .null, .null, .null, .int 0]))])) (va_Qv (fun _ : Nat × Nat × Nat × Nat => True) (at4 D cA h0 (va_A [(h0, .inr (4, [.null, .null, .null, .null, .int 0]))] sz)) (va_A [(h0, .inr (4, [.null, .null, .null, .null, .int 0]))] sz)) 4 3589 (va_A [(h0, .inr (4, [.null, .null, .null, .null, .int 0]))] sz) := by
  refine Met.ofW (cc := bc4) (maxL := 1) (ret := none) (by decide) rfl ?_
  intro p e s m args below meth c s₁ B hml hv
  obtain ⟨rfl, hsz, hP, hK, hD0⟩ := hv
  have hx := B.exec
  have hb := B.bytes
  have hr := B.returns
  have hts := atoms_spec (ws := wc4) B.pre
  have ht2 := fun (w : Cond) (h : w ∈ WS2) => hts w (List.mem_cons_of_mem _ h)
  have htw := fun (w : Cond) (h : w ∈ WS) => ht2 w (List.mem_append_left _ h)
  have hown : s.vm.findClass (cn 4) = some m.cls := findClass_of_methodNamed B.named
  have hlocks := B.notSynchronized
  have hin : meth.name = "<init>" := (name_of_methodNamed B.named B.method).1
  subst hsz
  have hD := hD0.self (sz := s.heap.size)
  generalize hAe : va_A [(h0, .inr (4, [.null, .null, .null, .null, .int 0]))] s.heap.size = A at hD ⊢
  have hA : ∀ q : Nat, s.heap.size ≤ q → A q := fun q h => by rw [← hAe]; exact Or.inr h
  have hS : va_S A s.heap s.heap [] := va_S.rf
  have hl := lv_entry ([.ref h0]) (n := 1) (Nat.le_of_ble_eq_true rfl)
  rw [lg_entry_eq]
  generalize (lg_sl ([.ref h0]) ++ List.replicate (1 - (lg_sl ([.ref h0])).length) Slot.unset).toArray = ls at hl ⊢
  have hl : lv_has ls 1 [(0, .ref h0)] := hl
  refine lv_aload_n hx hb dc4_0 rfl (lv_at hl 0 rfl) ?_
  refine W.objInit hx hb hown (htw _ ko4) (htw _ kob) (htw _ koc) rfl (by rw [hml]; exact hl.1) rfl dc4_1 (Nat.le_of_ble_eq_true rfl) (Nat.le_of_ble_eq_true rfl) ?_
  refine W.eq (g2 := F0 m 4 ls []) rfl ?_
  refine lv_aload_n hx hb dc4_4 rfl (lv_at hl 0 rfl) ?_
  refine lv_sipush (v := 512) hx hb dc4_5 (by decide) ?_
  refine va_newa (atype := .int) (ty := .int) (N' := 512) (a0 := (512, .inl (fun _ => 0))) hx hb (ht2 _ ka_int) rfl hK hP hD hS hA (fun _ => rfl) (by decide) (by decide) (by decide) (Nat.le_of_ble_eq_true rfl) (Nat.le_of_ble_eq_true rfl) dc4_8 (fun q1 ca H hK1 hP hD hS => ?_)
  obtain rfl : ca = cA 2 := arr_int hK1
  have hP : va_P D cls [(h0, .inr (4, [.null, .null, .null, .null, .int 0])), (q1, .inl (cA 2, 512, .inl (fun _ => 0)))] H := hP
  have hD : va_D A [(h0, .inr (4, [.null, .null, .null, .null, .int 0])), (q1, .inl (cA 2, 512, .inl (fun _ => 0)))] := hD
  refine va_putF (D := D) (ci := 4) (v := .ref q1) (ty := fty 4 0) (C := cn 4) (T := FT 4) (N := nfl 4) hx hb htw (f_uws 4 (by decide)) (fty 4) (f_fty 4 (by decide)) (f_fnm 4 (by decide)) hown hK hP hD hS 0 rfl (f_cls 4 (by decide)) 0 (by decide) (htw (fldW 4 9 4 0) (atW_mem (i := 93) (by decide +kernel))) (fun _ h9 => h9) rfl hin rfl (f_fty 4 (by decide) 0 (by decide)) rfl rfl (Nat.le_of_ble_eq_true rfl) dc4_10 (fun H locs hP hD hS => ?_)
  have hP : va_P D cls [(h0, .inr (4, [.ref q1, .null, .null, .null, .int 0])), (q1, .inl (cA 2, 512, .inl (fun _ => 0)))] H := hP
  have hD : va_D A [(h0, .inr (4, [.ref q1, .null, .null, .null, .int 0])), (q1, .inl (cA 2, 512, .inl (fun _ => 0)))] := hD
  refine lv_aload_n hx hb dc4_13 rfl (lv_at hl 0 rfl) ?_
  refine lv_sipush (v := 512) hx hb dc4_14 (by decide) ?_
  refine va_newa (atype := .int) (ty := .int) (N' := 512) (a0 := (512, .inl (fun _ => 0))) hx hb (ht2 _ ka_int) rfl hK hP hD hS hA (fun _ => rfl) (by decide) (by decide) (by decide) (Nat.le_of_ble_eq_true rfl) (Nat.le_of_ble_eq_true rfl) dc4_17 (fun q2 ca H hK1 hP hD hS => ?_)
  obtain rfl : ca = cA 2 := arr_int hK1
  have hP : va_P D cls [(h0, .inr (4, [.ref q1, .null, .null, .null, .int 0])), (q1, .inl (cA 2, 512, .inl (fun _ => 0))), (q2, .inl (cA 2, 512, .inl (fun _ => 0)))] H := hP
  have hD : va_D A [(h0, .inr (4, [.ref q1, .null, .null, .null, .int 0])), (q1, .inl (cA 2, 512, .inl (fun _ => 0))), (q2, .inl (cA 2, 512, .inl (fun _ => 0)))] := hD
  refine va_putF (D := D) (ci := 4) (v := .ref q2) (ty := fty 4 1) (C := cn 4) (T := FT 4) (N := nfl 4) hx hb htw (f_uws 4 (by decide)) (fty 4) (f_fty 4 (by decide)) (f_fnm 4 (by decide)) hown hK hP hD hS 0 rfl (f_cls 4 (by decide)) 1 (by decide) (htw (fldW 4 15 4 1) (atW_mem (i := 94) (by decide +kernel))) (fun _ h9 => h9) rfl hin rfl (f_fty 4 (by decide) 1 (by decide)) rfl rfl (Nat.le_of_ble_eq_true rfl) dc4_19 (fun H locs hP hD hS => ?_)
  have hP : va_P D cls [(h0, .inr (4, [.ref q1, .ref q2, .null, .null, .int 0])), (q1, .inl (cA 2, 512, .inl (fun _ => 0))), (q2, .inl (cA 2, 512, .inl (fun _ => 0)))] H := hP
  have hD : va_D A [(h0, .inr (4, [.ref q1, .ref q2, .null, .null, .int 0])), (q1, .inl (cA 2, 512, .inl (fun _ => 0))), (q2, .inl (cA 2, 512, .inl (fun _ => 0)))] := hD
  refine lv_aload_n hx hb dc4_22 rfl (lv_at hl 0 rfl) ?_
  refine lv_sipush (v := 2052) hx hb dc4_23 (by decide) ?_
  refine va_newa (atype := .long) (ty := .long) (N' := 2052) (a0 := (2052, .inr (.inl (fun _ => 0)))) hx hb (ht2 _ ka_long) rfl hK hP hD hS hA (fun _ => rfl) (by decide) (by decide) (by decide) (Nat.le_of_ble_eq_true rfl) (Nat.le_of_ble_eq_true rfl) dc4_26 (fun q3 ca H hK1 hP hD hS => ?_)
  obtain rfl : ca = cA 5 := arr_long hK1
  have hP : va_P D cls [(h0, .inr (4, [.ref q1, .ref q2, .null, .null, .int 0])), (q1, .inl (cA 2, 512, .inl (fun _ => 0))), (q2, .inl (cA 2, 512, .inl (fun _ => 0))), (q3, .inl (cA 5, 2052, .inr (.inl (fun _ => 0))))] H := hP
  have hD : va_D A [(h0, .inr (4, [.ref q1, .ref q2, .null, .null, .int 0])), (q1, .inl (cA 2, 512, .inl (fun _ => 0))), (q2, .inl (cA 2, 512, .inl (fun _ => 0))), (q3, .inl (cA 5, 2052, .inr (.inl (fun _ => 0))))] := hD
  refine va_putF (D := D) (ci := 4) (v := .ref q3) (ty := fty 4 2) (C := cn 4) (T := FT 4) (N := nfl 4) hx hb htw (f_uws 4 (by decide)) (fty 4) (f_fty 4 (by decide)) (f_fnm 4 (by decide)) hown hK hP hD hS 0 rfl (f_cls 4 (by decide)) 2 (by decide) (htw (fldW 4 18 4 2) (atW_mem (i := 95) (by decide +kernel))) (fun _ h9 => h9) rfl hin rfl (f_fty 4 (by decide) 2 (by decide)) rfl rfl (Nat.le_of_ble_eq_true rfl) dc4_28 (fun H locs hP hD hS => ?_)
  have hP : va_P D cls [(h0, .inr (4, [.ref q1, .ref q2, .ref q3, .null, .int 0])), (q1, .inl (cA 2, 512, .inl (fun _ => 0))), (q2, .inl (cA 2, 512, .inl (fun _ => 0))), (q3, .inl (cA 5, 2052, .inr (.inl (fun _ => 0))))] H := hP
  have hD : va_D A [(h0, .inr (4, [.ref q1, .ref q2, .ref q3, .null, .int 0])), (q1, .inl (cA 2, 512, .inl (fun _ => 0))), (q2, .inl (cA 2, 512, .inl (fun _ => 0))), (q3, .inl (cA 5, 2052, .inr (.inl (fun _ => 0))))] := hD
  refine lv_aload_n hx hb dc4_31 rfl (lv_at hl 0 rfl) ?_
  refine lv_sipush (v := 513) hx hb dc4_32 (by decide) ?_
  refine va_newa (atype := .int) (ty := .int) (N' := 513) (a0 := (513, .inl (fun _ => 0))) hx hb (ht2 _ ka_int) rfl hK hP hD hS hA (fun _ => rfl) (by decide) (by decide) (by decide) (Nat.le_of_ble_eq_true rfl) (Nat.le_of_ble_eq_true rfl) dc4_35 (fun q4 ca H hK1 hP hD hS => ?_)
  obtain rfl : ca = cA 2 := arr_int hK1
  have hP : va_P D cls [(h0, .inr (4, [.ref q1, .ref q2, .ref q3, .null, .int 0])), (q1, .inl (cA 2, 512, .inl (fun _ => 0))), (q2, .inl (cA 2, 512, .inl (fun _ => 0))), (q3, .inl (cA 5, 2052, .inr (.inl (fun _ => 0)))), (q4, .inl (cA 2, 513, .inl (fun _ => 0)))] H := hP
  have hD : va_D A [(h0, .inr (4, [.ref q1, .ref q2, .ref q3, .null, .int 0])), (q1, .inl (cA 2, 512, .inl (fun _ => 0))), (q2, .inl (cA 2, 512, .inl (fun _ => 0))), (q3, .inl (cA 5, 2052, .inr (.inl (fun _ => 0)))), (q4, .inl (cA 2, 513, .inl (fun _ => 0)))] := hD
  refine va_putF (D := D) (ci := 4) (v := .ref q4) (ty := fty 4 3) (C := cn 4) (T := FT 4) (N := nfl 4) hx hb htw (f_uws 4 (by decide)) (fty 4) (f_fty 4 (by decide)) (f_fnm 4 (by decide)) hown hK hP hD hS 0 rfl (f_cls 4 (by decide)) 3 (by decide) (htw (fldW 4 22 4 3) (atW_mem (i := 96) (by decide +kernel))) (fun _ h9 => h9) rfl hin rfl (f_fty 4 (by decide) 3 (by decide)) rfl rfl (Nat.le_of_ble_eq_true rfl) dc4_37 (fun H locs hP hD hS => ?_)
  have hP : va_P D cls [(h0, .inr (4, [.ref q1, .ref q2, .ref q3, .ref q4, .int 0])), (q1, .inl (cA 2, 512, .inl (fun _ => 0))), (q2, .inl (cA 2, 512, .inl (fun _ => 0))), (q3, .inl (cA 5, 2052, .inr (.inl (fun _ => 0)))), (q4, .inl (cA 2, 513, .inl (fun _ => 0)))] H := hP
  have hD : va_D A [(h0, .inr (4, [.ref q1, .ref q2, .ref q3, .ref q4, .int 0])), (q1, .inl (cA 2, 512, .inl (fun _ => 0))), (q2, .inl (cA 2, 512, .inl (fun _ => 0))), (q3, .inl (cA 5, 2052, .inr (.inl (fun _ => 0)))), (q4, .inl (cA 2, 513, .inl (fun _ => 0)))] := hD
  exact W.vret hx hb hr (fun t ht hW => ⟨⟨(q1, q2, q3, q4), rfl, trivial, by rw [ht]; exact hP, hD⟩, hS.F ht⟩) hS.2.2 dc4_40
def at1 (D : va_G) (cA : Nat → ClassId) (h0 : Nat) (A : Nat → Prop) : Nat × Nat × Nat → State → Prop := fun ⟨q1, q2, q3⟩ t => va_P D cls [(h0, .inr (1, [.ref q1, .ref q3, .int 0, .int 0, .int 0, .int 0])), (q1, .inr (2, [.ref q2])), (q2, .inl (cA 2, 64, .inl (fun _ => 0))), (q3, .inl (cA 2, 2, .inl (fun _ => 0)))] t.heap ∧ va_D A [(h0, .inr (1, [.ref q1, .ref q3, .int 0, .int 0, .int 0, .int 0])), (q1, .inr (2, [.ref q2])), (q2, .inl (cA 2, 64, .inl (fun _ => 0))), (q3, .inl (cA 2, 2, .inl (fun _ => 0)))]
set_option maxHeartbeats 4000000 in
set_option maxRecDepth 100000 in
theorem c_Position (l : Launch) (D : va_G) (cA : Nat → ClassId) (h0 sz : Nat) : Met l yc1 wc1 ({ frames := 2, cells := 3, slots := 67, locals := 32 }) (va_Pc [.ref h0] (fun U => U.heap.size = sz ∧ va_P D cls [(h0, .inr (1, [.null, .null, .int 0, .int 0, .int 0, .int 0]))] U.heap ∧ va_K D cls (tyL cA) U ∧ va_D (fun _ => True) [(h0, .inr (1, [.null, .null, .int 0, .int 0, .int 0, .int 0]))] ∧ nstC U)) (va_Qv (fun _ : Nat × Nat × Nat => True) (at1 D cA h0 (va_A [(h0, .inr (1, [.null, .null, .int 0, .int 0, .int 0, .int 0]))] sz)) (va_A [(h0, .inr (1, [.null, .null, .int 0, .int 0, .int 0, .int 0]))] sz)) 3 67 (va_A [(h0, .inr (1, [.null, .null, .int 0, .int 0, .int 0, .int 0]))] sz) := by
  refine Met.ofW (cc := bc1) (maxL := 1) (ret := none) (by decide) rfl ?_
  intro p e s m args below meth c s₁ B hml hv
  obtain ⟨rfl, hsz, hP, hK, hD0, hN⟩ := hv
  have hx := B.exec
  have hb := B.bytes
  have hr := B.returns
  have hts := atoms_spec (ws := wc1) B.pre
  have ht2 := fun (w : Cond) (h : w ∈ WS2) => hts w (List.mem_cons_of_mem _ h)
  have htw := fun (w : Cond) (h : w ∈ WS) => ht2 w (List.mem_append_left _ h)
  have hown : s.vm.findClass (cn 1) = some m.cls := findClass_of_methodNamed B.named
  have hlocks := B.notSynchronized
  have hin : meth.name = "<init>" := (name_of_methodNamed B.named B.method).1
  subst hsz
  have hD := hD0.self (sz := s.heap.size)
  generalize hAe : va_A [(h0, .inr (1, [.null, .null, .int 0, .int 0, .int 0, .int 0]))] s.heap.size = A at hD ⊢
  have hA : ∀ q : Nat, s.heap.size ≤ q → A q := fun q h => by rw [← hAe]; exact Or.inr h
  have hS : va_S A s.heap s.heap [] := va_S.rf
  have hl := lv_entry ([.ref h0]) (n := 1) (Nat.le_of_ble_eq_true rfl)
  rw [lg_entry_eq]
  generalize (lg_sl ([.ref h0]) ++ List.replicate (1 - (lg_sl ([.ref h0])).length) Slot.unset).toArray = ls at hl ⊢
  have hl : lv_has ls 1 [(0, .ref h0)] := hl
  refine lv_aload_n hx hb dc1_0 rfl (lv_at hl 0 rfl) ?_
  refine W.objInit hx hb hown (htw _ ko1) (htw _ kob) (htw _ koc) rfl (by rw [hml]; exact hl.1) rfl dc1_1 (Nat.le_of_ble_eq_true rfl) (Nat.le_of_ble_eq_true rfl) ?_
  refine W.eq (g2 := F0 m 4 ls []) rfl ?_
  refine lv_aload_n hx hb dc1_4 rfl (lv_at hl 0 rfl) ?_
  refine va_new (ci := 2) (fs := [.null]) (C := cn 2) (T := FT 2) (N := nfl 2) hx hb htw (f_uws 2 (by decide)) (fty 2) (f_fty 2 (by decide)) hown (htw _ kl1_9) (htw _ ks2) (htw _ kn2) hK hP hD hS hA (f_cls 2 (by decide)) (fun j hj => by have hj : j < 1 := hj; rcases (show j = 0 by omega) with rfl <;> rfl) (Nat.le_of_ble_eq_true rfl) (Nat.le_of_ble_eq_true rfl) dc1_5 (fun q1 H hP hD hS => ?_)
  have hP : va_P D cls [(h0, .inr (1, [.null, .null, .int 0, .int 0, .int 0, .int 0])), (q1, .inr (2, [.null]))] H := hP
  have hD : va_D A [(h0, .inr (1, [.null, .null, .int 0, .int 0, .int 0, .int 0])), (q1, .inr (2, [.null]))] := hD
  refine lv_dup hx hb dc1_8 rfl ?_
  have hPc := hP.sub (ws' := [(q1, .inr (2, [.null]))]) [1] rfl
  have hDc := hD.sub (ws' := [(q1, .inr (2, [.null]))]) [1] (by decide) rfl
  have hFc := va_free (wc := [(q1, .inr (2, [.null]))]) hD hS hA [1] rfl
  refine va_callv (va_runIN (As := []) (rest := [.ref q1, .ref h0]) ⟨hx, hb, hml, hown, ht2⟩ (c_Board l D cA q1 H.size) ⟨va_cnB 0 ht2 gc2 rfl rfl rfl hN.2.2.2 (htw _ kn2) (by decide +kernel) ⟨Nat.le_of_ble_eq_true rfl, Nat.le_of_ble_eq_true rfl⟩, rfl, htw _ ki2⟩ ⟨fun _ _ _ _ q => q, fun U hU hW => ⟨rfl, by rw [hU], by rw [hU]; exact hPc, va_K.moved hW.alike hK, hDc.weaken (fun _ _ _ _ => trivial)⟩⟩ rfl rfl hl.1 rfl (lv_room (Nat.le_of_ble_eq_true rfl)) dc1_9 ⟨Nat.le_of_ble_eq_true rfl, Nat.le_of_ble_eq_true rfl⟩) hS (fun q _ h => hFc q h) hFc (fun u t H1 locs ht hvm hpo hB hz1 hk1 hS => ?_)
  obtain ⟨q2, rfl⟩ : ∃ z, z = u := ⟨_, rfl⟩
  obtain ⟨hP1, hD1⟩ := hB
  rw [ht] at hP1
  obtain ⟨hP, hD⟩ := va_join (wr := [(h0, .inr (1, [.null, .null, .int 0, .int 0, .int 0, .int 0]))]) (w1 := [(q1, .inr (2, [.ref q2])), (q2, .inl (cA 2, 64, .inl (fun _ => 0)))]) hP hD [1] [0] rfl rfl (by decide) (by decide) hk1 hFc hP1 hD1
  generalize H1 = H at hP hS ⊢
  have hP : va_P D cls [(h0, .inr (1, [.null, .null, .int 0, .int 0, .int 0, .int 0])), (q1, .inr (2, [.ref q2])), (q2, .inl (cA 2, 64, .inl (fun _ => 0)))] H := hP
  have hD : va_D A [(h0, .inr (1, [.null, .null, .int 0, .int 0, .int 0, .int 0])), (q1, .inr (2, [.ref q2])), (q2, .inl (cA 2, 64, .inl (fun _ => 0)))] := hD
  refine va_putF (D := D) (ci := 1) (v := .ref q1) (ty := fty 1 0) (C := cn 1) (T := FT 1) (N := nfl 1) hx hb htw (f_uws 1 (by decide)) (fty 1) (f_fty 1 (by decide)) (f_fnm 1 (by decide)) hown hK hP hD hS 0 rfl (f_cls 1 (by decide)) 0 (by decide) (htw (fldW 1 12 1 0) (atW_mem (i := 41) (by decide +kernel))) (fun _ h9 => h9) rfl hin rfl (f_fty 1 (by decide) 0 (by decide)) rfl rfl (Nat.le_of_ble_eq_true rfl) dc1_12 (fun H locs hP hD hS => ?_)
  have hP : va_P D cls [(h0, .inr (1, [.ref q1, .null, .int 0, .int 0, .int 0, .int 0])), (q1, .inr (2, [.ref q2])), (q2, .inl (cA 2, 64, .inl (fun _ => 0)))] H := hP
  have hD : va_D A [(h0, .inr (1, [.ref q1, .null, .int 0, .int 0, .int 0, .int 0])), (q1, .inr (2, [.ref q2])), (q2, .inl (cA 2, 64, .inl (fun _ => 0)))] := hD
  refine lv_aload_n hx hb dc1_15 rfl (lv_at hl 0 rfl) ?_
  refine lv_iconst (v := 2) hx hb dc1_16 (by decide) ?_
  refine va_newa (atype := .int) (ty := .int) (N' := 2) (a0 := (2, .inl (fun _ => 0))) hx hb (ht2 _ ka_int) rfl hK hP hD hS hA (fun _ => rfl) (by decide) (by decide) (by decide) (Nat.le_of_ble_eq_true rfl) (Nat.le_of_ble_eq_true rfl) dc1_17 (fun q3 ca H hK1 hP hD hS => ?_)
  obtain rfl : ca = cA 2 := arr_int hK1
  have hP : va_P D cls [(h0, .inr (1, [.ref q1, .null, .int 0, .int 0, .int 0, .int 0])), (q1, .inr (2, [.ref q2])), (q2, .inl (cA 2, 64, .inl (fun _ => 0))), (q3, .inl (cA 2, 2, .inl (fun _ => 0)))] H := hP
  have hD : va_D A [(h0, .inr (1, [.ref q1, .null, .int 0, .int 0, .int 0, .int 0])), (q1, .inr (2, [.ref q2])), (q2, .inl (cA 2, 64, .inl (fun _ => 0))), (q3, .inl (cA 2, 2, .inl (fun _ => 0)))] := hD
  refine va_putF (D := D) (ci := 1) (v := .ref q3) (ty := fty 1 1) (C := cn 1) (T := FT 1) (N := nfl 1) hx hb htw (f_uws 1 (by decide)) (fty 1) (f_fty 1 (by decide)) (f_fnm 1 (by decide)) hown hK hP hD hS 0 rfl (f_cls 1 (by decide)) 1 (by decide) (htw (fldW 1 18 1 1) (atW_mem (i := 45) (by decide +kernel))) (fun _ h9 => h9) rfl hin rfl (f_fty 1 (by decide) 1 (by decide)) rfl rfl (Nat.le_of_ble_eq_true rfl) dc1_19 (fun H locs hP hD hS => ?_)
  have hP : va_P D cls [(h0, .inr (1, [.ref q1, .ref q3, .int 0, .int 0, .int 0, .int 0])), (q1, .inr (2, [.ref q2])), (q2, .inl (cA 2, 64, .inl (fun _ => 0))), (q3, .inl (cA 2, 2, .inl (fun _ => 0)))] H := hP
  have hD : va_D A [(h0, .inr (1, [.ref q1, .ref q3, .int 0, .int 0, .int 0, .int 0])), (q1, .inr (2, [.ref q2])), (q2, .inl (cA 2, 64, .inl (fun _ => 0))), (q3, .inl (cA 2, 2, .inl (fun _ => 0)))] := hD
  exact W.vret hx hb hr (fun t ht hW => ⟨⟨(q1, q2, q3), rfl, trivial, by rw [ht]; exact hP, hD⟩, hS.F ht⟩) hS.2.2 dc1_22
def scrH (L : Nat) (xs : Nat → Int32) : Hp := (fun o j => if o = 41 then (L : Int) else if o = 40 then (xs j.toNat).toInt else 0, fun _ _ => 0)
theorem scrH_R (L : Nat) (xs : Nat → Int32) : scrR L xs (scrH L xs) := ⟨rfl, fun j hj => by
  show Int32.ofInt ((xs (j : Int).toNat).toInt) = xs j
  rw [Int32.ofInt_toInt]
  rfl⟩
def adC (h0 q1 q2 q3 q4 q5 q6 q7 q8 q9 q10 q11 q12 q13 : Nat) (ad : Nat → Nat) : Nat → Nat := fun o => if o < 14 then ([h0, q1, q2, q3, q4, q5, q6, q7, q8, q9, q10, q11, q12, q13] : List Nat).getD o 0 else ad o
def prC0 (D : va_G) (cA : Nat → ClassId) (ad : Nat → Nat) (base L : Nat) (xs : Nat → Int32) (h0 : Nat) (U : State) : Prop := va_P D cls [(h0, .inr (0, [.null, .null, .null, .null, .int 0]))] U.heap ∧ va_D (fun q : Nat => base ≤ q) [(h0, .inr (0, [.null, .null, .null, .null, .int 0]))] ∧ va_K D cls (tyL cA) U ∧ Stx base ad L xs U U.heap ∧ nstC U ∧ base ≤ U.heap.size
def poC0 (ad : Nat → Nat) (L : Nat) (xs : Nat → Int32) (h0 : Nat) (u : (Nat → Nat) × Hp) : Prop := (u.1 0 = h0 ∧ ∀ o, 14 ≤ o → u.1 o = ad o) ∧ cl0 (scrH L xs) u.2
theorem Stx.ad {base : Nat} {ad ad' : Nat → Nat} {L : Nat} {xs : Nat → Int32} {U : State} {H : Heap} (h : Stx base ad L xs U H) (e : ∀ o, 14 ≤ o → ad' o = ad o) : Stx base ad' L xs U H := by
  obtain ⟨h1, h2, h3, h4, h5, h6, h7⟩ := h
  refine ⟨fun q hq => ?_, h2, h3, by rw [e 40 (by decide)]; exact h4, by rw [e 40 (by decide)]; exact h5, by rw [e 40 (by decide)]; exact h6, h7⟩
  have h14 : 14 ≤ q.2.2.2 := (show ∀ q ∈ staL, 14 ≤ q.2.2.2 by decide) q hq
  rw [e _ h14]
  exact h1 q hq
theorem scr_out (L : Nat) (xs : Nat → Int32) : out0 (ga (scrH L xs) 3) := fun s _ => rfl
theorem scr_mrk (L : Nat) (xs : Nat → Int32) : mrkI (scrH L xs) := fun j _ => by
  show inR 0
  unfold inR; omega
theorem okC : okBlk 0 1 bc0 48 CB0 = true := by decide +kernel
set_option maxHeartbeats 4000000 in
set_option maxRecDepth 100000 in
theorem c_Class (l : Launch) (D : va_G) (cA : Nat → ClassId) (ad : Nat → Nat) (base L : Nat) (xs : Nat → Int32) (h0 : Nat) : Met l yc0 wc0 ({ frames := 8, cells := 13, slots := 4501, locals := 336 }) (va_Pc [.ref h0] (prC0 D cA ad base L xs h0)) (va_Qv (poC0 ad L xs h0) (fun (u : (Nat → Nat) × Hp) t => PostB D cA u.1 base 14 L xs u.2 t) (fun q : Nat => base ≤ q)) 13 4501 (fun q : Nat => base ≤ q) := by
  refine Met.ofW (cc := bc0) (maxL := 1) (ret := none) (by decide) rfl ?_
  intro p e s m args below meth c s₁ B hml hv
  obtain ⟨rfl, hP, hD, hK, hZ, hN, hbs⟩ := hv
  have hx := B.exec
  have hb := B.bytes
  have hr := B.returns
  have hts := atoms_spec (ws := wc0) B.pre
  have ht2 := fun (w : Cond) (h : w ∈ WS2) => hts w (List.mem_cons_of_mem _ h)
  have htw := fun (w : Cond) (h : w ∈ WS) => ht2 w (List.mem_append_left _ h)
  have hown : s.vm.findClass (cn 0) = some m.cls := findClass_of_methodNamed B.named
  have hlocks := B.notSynchronized
  have hin : meth.name = "<init>" := (name_of_methodNamed B.named B.method).1
  generalize hAe : (fun q : Nat => base ≤ q) = A at hD
  have hA : ∀ q : Nat, s.heap.size ≤ q → A q := fun q h => by rw [← hAe]; exact Nat.le_trans hbs h
  have hS : va_S A s.heap s.heap [] := va_S.rf
  have hl := lv_entry ([.ref h0]) (n := 1) (Nat.le_of_ble_eq_true rfl)
  rw [lg_entry_eq]
  generalize (lg_sl ([.ref h0]) ++ List.replicate (1 - (lg_sl ([.ref h0])).length) Slot.unset).toArray = ls at hl ⊢
  have hl : lv_has ls 1 [(0, .ref h0)] := hl
  refine lv_aload_n hx hb dc0_0 rfl (lv_at hl 0 rfl) ?_
  refine W.objInit hx hb hown (htw _ ko0) (htw _ kob) (htw _ koc) rfl (by rw [hml]; exact hl.1) rfl dc0_1 (Nat.le_of_ble_eq_true rfl) (Nat.le_of_ble_eq_true rfl) ?_
  refine W.eq (g2 := F0 m 4 ls []) rfl ?_
  refine lv_aload_n hx hb dc0_4 rfl (lv_at hl 0 rfl) ?_
  refine va_new (ci := 1) (fs := [.null, .null, .int 0, .int 0, .int 0, .int 0]) (C := cn 1) (T := FT 1) (N := nfl 1) hx hb htw (f_uws 1 (by decide)) (fty 1) (f_fty 1 (by decide)) hown (htw _ kl0_9) (htw _ ks1) (htw _ kn1) hK hP hD hS hA (f_cls 1 (by decide)) (fun j hj => by have hj : j < 6 := hj; rcases (show j = 0 ∨ j = 1 ∨ j = 2 ∨ j = 3 ∨ j = 4 ∨ j = 5 by omega) with rfl | rfl | rfl | rfl | rfl | rfl <;> rfl) (Nat.le_of_ble_eq_true rfl) (Nat.le_of_ble_eq_true rfl) dc0_5 (fun q1 H hP hD hS => ?_)
  have hP : va_P D cls [(h0, .inr (0, [.null, .null, .null, .null, .int 0])), (q1, .inr (1, [.null, .null, .int 0, .int 0, .int 0, .int 0]))] H := hP
  have hD : va_D A [(h0, .inr (0, [.null, .null, .null, .null, .int 0])), (q1, .inr (1, [.null, .null, .int 0, .int 0, .int 0, .int 0]))] := hD
  refine lv_dup hx hb dc0_8 rfl ?_
  have hPc := hP.sub (ws' := [(q1, .inr (1, [.null, .null, .int 0, .int 0, .int 0, .int 0]))]) [1] rfl
  have hDc := hD.sub (ws' := [(q1, .inr (1, [.null, .null, .int 0, .int 0, .int 0, .int 0]))]) [1] (by decide) rfl
  have hFc := va_free (wc := [(q1, .inr (1, [.null, .null, .int 0, .int 0, .int 0, .int 0]))]) hD hS hA [1] rfl
  refine va_callv (va_runIN (As := []) (rest := [.ref q1, .ref h0]) ⟨hx, hb, hml, hown, ht2⟩ (c_Position l D cA q1 H.size) ⟨va_cnB 0 ht2 gc1 rfl rfl rfl hN.1 (htw _ kn1) (by decide +kernel) ⟨Nat.le_of_ble_eq_true rfl, Nat.le_of_ble_eq_true rfl⟩, rfl, htw _ ki1⟩ ⟨fun _ _ _ _ q => q, fun U hU hW => ⟨rfl, by rw [hU], by rw [hU]; exact hPc, va_K.moved hW.alike hK, hDc.weaken (fun _ _ _ _ => trivial), nstC.warm hW hN⟩⟩ rfl rfl hl.1 rfl (lv_room (Nat.le_of_ble_eq_true rfl)) dc0_9 ⟨Nat.le_of_ble_eq_true rfl, Nat.le_of_ble_eq_true rfl⟩) hS (fun q _ h => hFc q h) hFc (fun u t H1 locs ht hvm hpo hB hz1 hk1 hS => ?_)
  obtain ⟨q2, q3, q4⟩ := u
  obtain ⟨hP1, hD1⟩ := hB
  rw [ht] at hP1
  obtain ⟨hP, hD⟩ := va_join (wr := [(h0, .inr (0, [.null, .null, .null, .null, .int 0]))]) (w1 := [(q1, .inr (1, [.ref q2, .ref q4, .int 0, .int 0, .int 0, .int 0])), (q2, .inr (2, [.ref q3])), (q3, .inl (cA 2, 64, .inl (fun _ => 0))), (q4, .inl (cA 2, 2, .inl (fun _ => 0)))]) hP hD [1] [0] rfl rfl (by decide) (by decide) hk1 hFc hP1 hD1
  generalize H1 = H at hP hS ⊢
  have hP : va_P D cls [(h0, .inr (0, [.null, .null, .null, .null, .int 0])), (q1, .inr (1, [.ref q2, .ref q4, .int 0, .int 0, .int 0, .int 0])), (q2, .inr (2, [.ref q3])), (q3, .inl (cA 2, 64, .inl (fun _ => 0))), (q4, .inl (cA 2, 2, .inl (fun _ => 0)))] H := hP
  have hD : va_D A [(h0, .inr (0, [.null, .null, .null, .null, .int 0])), (q1, .inr (1, [.ref q2, .ref q4, .int 0, .int 0, .int 0, .int 0])), (q2, .inr (2, [.ref q3])), (q3, .inl (cA 2, 64, .inl (fun _ => 0))), (q4, .inl (cA 2, 2, .inl (fun _ => 0)))] := hD
  refine va_putF (D := D) (ci := 0) (v := .ref q1) (ty := fty 0 0) (C := cn 0) (T := FT 0) (N := nfl 0) hx hb htw (f_uws 0 (by decide)) (fty 0) (f_fty 0 (by decide)) (f_fnm 0 (by decide)) hown hK hP hD hS 0 rfl (f_cls 0 (by decide)) 0 (by decide) (htw (fldW 0 12 0 0) (atW_mem (i := 287) (by decide +kernel))) (fun _ h9 => h9) rfl hin rfl (f_fty 0 (by decide) 0 (by decide)) rfl rfl (Nat.le_of_ble_eq_true rfl) dc0_12 (fun H locs hP hD hS => ?_)
  have hP : va_P D cls [(h0, .inr (0, [.ref q1, .null, .null, .null, .int 0])), (q1, .inr (1, [.ref q2, .ref q4, .int 0, .int 0, .int 0, .int 0])), (q2, .inr (2, [.ref q3])), (q3, .inl (cA 2, 64, .inl (fun _ => 0))), (q4, .inl (cA 2, 2, .inl (fun _ => 0)))] H := hP
  have hD : va_D A [(h0, .inr (0, [.ref q1, .null, .null, .null, .int 0])), (q1, .inr (1, [.ref q2, .ref q4, .int 0, .int 0, .int 0, .int 0])), (q2, .inr (2, [.ref q3])), (q3, .inl (cA 2, 64, .inl (fun _ => 0))), (q4, .inl (cA 2, 2, .inl (fun _ => 0)))] := hD
  refine lv_aload_n hx hb dc0_15 rfl (lv_at hl 0 rfl) ?_
  refine va_new (ci := 3) (fs := [.null, .int 0]) (C := cn 3) (T := FT 3) (N := nfl 3) hx hb htw (f_uws 3 (by decide)) (fty 3) (f_fty 3 (by decide)) hown (htw _ kl0_16) (htw _ ks3) (htw _ kn3) hK hP hD hS hA (f_cls 3 (by decide)) (fun j hj => by have hj : j < 2 := hj; rcases (show j = 0 ∨ j = 1 by omega) with rfl | rfl <;> rfl) (Nat.le_of_ble_eq_true rfl) (Nat.le_of_ble_eq_true rfl) dc0_16 (fun q5 H hP hD hS => ?_)
  have hP : va_P D cls [(h0, .inr (0, [.ref q1, .null, .null, .null, .int 0])), (q1, .inr (1, [.ref q2, .ref q4, .int 0, .int 0, .int 0, .int 0])), (q2, .inr (2, [.ref q3])), (q3, .inl (cA 2, 64, .inl (fun _ => 0))), (q4, .inl (cA 2, 2, .inl (fun _ => 0))), (q5, .inr (3, [.null, .int 0]))] H := hP
  have hD : va_D A [(h0, .inr (0, [.ref q1, .null, .null, .null, .int 0])), (q1, .inr (1, [.ref q2, .ref q4, .int 0, .int 0, .int 0, .int 0])), (q2, .inr (2, [.ref q3])), (q3, .inl (cA 2, 64, .inl (fun _ => 0))), (q4, .inl (cA 2, 2, .inl (fun _ => 0))), (q5, .inr (3, [.null, .int 0]))] := hD
  refine lv_dup hx hb dc0_19 rfl ?_
  have hPc := hP.sub (ws' := [(q5, .inr (3, [.null, .int 0]))]) [5] rfl
  have hDc := hD.sub (ws' := [(q5, .inr (3, [.null, .int 0]))]) [5] (by decide) rfl
  have hFc := va_free (wc := [(q5, .inr (3, [.null, .int 0]))]) hD hS hA [5] rfl
  refine va_callv (va_runIN (As := []) (rest := [.ref q5, .ref h0]) ⟨hx, hb, hml, hown, ht2⟩ (c_MoveRow l D cA q5 H.size) ⟨va_cnB 0 ht2 gc3 rfl rfl rfl hN.2.1 (htw _ kn3) (by decide +kernel) ⟨Nat.le_of_ble_eq_true rfl, Nat.le_of_ble_eq_true rfl⟩, rfl, htw _ ki3⟩ ⟨fun _ _ _ _ q => q, fun U hU hW => ⟨rfl, by rw [hU], by rw [hU]; exact hPc, va_K.moved hW.alike hK, hDc.weaken (fun _ _ _ _ => trivial)⟩⟩ rfl rfl hl.1 rfl (lv_room (Nat.le_of_ble_eq_true rfl)) dc0_20 ⟨Nat.le_of_ble_eq_true rfl, Nat.le_of_ble_eq_true rfl⟩) hS (fun q _ h => hFc q h) hFc (fun u t H1 locs ht hvm hpo hB hz1 hk1 hS => ?_)
  obtain ⟨q6, rfl⟩ : ∃ z, z = u := ⟨_, rfl⟩
  obtain ⟨hP1, hD1⟩ := hB
  rw [ht] at hP1
  obtain ⟨hP, hD⟩ := va_join (wr := [(h0, .inr (0, [.ref q1, .null, .null, .null, .int 0])), (q1, .inr (1, [.ref q2, .ref q4, .int 0, .int 0, .int 0, .int 0])), (q2, .inr (2, [.ref q3])), (q3, .inl (cA 2, 64, .inl (fun _ => 0))), (q4, .inl (cA 2, 2, .inl (fun _ => 0)))]) (w1 := [(q5, .inr (3, [.ref q6, .int 0])), (q6, .inl (cA 2, 415, .inl (fun _ => 0)))]) hP hD [5] [0, 1, 2, 3, 4] rfl rfl (by decide) (by decide) hk1 hFc hP1 hD1
  generalize H1 = H at hP hS ⊢
  have hP : va_P D cls [(h0, .inr (0, [.ref q1, .null, .null, .null, .int 0])), (q1, .inr (1, [.ref q2, .ref q4, .int 0, .int 0, .int 0, .int 0])), (q2, .inr (2, [.ref q3])), (q3, .inl (cA 2, 64, .inl (fun _ => 0))), (q4, .inl (cA 2, 2, .inl (fun _ => 0))), (q5, .inr (3, [.ref q6, .int 0])), (q6, .inl (cA 2, 415, .inl (fun _ => 0)))] H := hP
  have hD : va_D A [(h0, .inr (0, [.ref q1, .null, .null, .null, .int 0])), (q1, .inr (1, [.ref q2, .ref q4, .int 0, .int 0, .int 0, .int 0])), (q2, .inr (2, [.ref q3])), (q3, .inl (cA 2, 64, .inl (fun _ => 0))), (q4, .inl (cA 2, 2, .inl (fun _ => 0))), (q5, .inr (3, [.ref q6, .int 0])), (q6, .inl (cA 2, 415, .inl (fun _ => 0)))] := hD
  refine va_putF (D := D) (ci := 0) (v := .ref q5) (ty := fty 0 1) (C := cn 0) (T := FT 0) (N := nfl 0) hx hb htw (f_uws 0 (by decide)) (fty 0) (f_fty 0 (by decide)) (f_fnm 0 (by decide)) hown hK hP hD hS 0 rfl (f_cls 0 (by decide)) 1 (by decide) (htw (fldW 0 19 0 1) (atW_mem (i := 288) (by decide +kernel))) (fun _ h9 => h9) rfl hin rfl (f_fty 0 (by decide) 1 (by decide)) rfl rfl (Nat.le_of_ble_eq_true rfl) dc0_23 (fun H locs hP hD hS => ?_)
  have hP : va_P D cls [(h0, .inr (0, [.ref q1, .ref q5, .null, .null, .int 0])), (q1, .inr (1, [.ref q2, .ref q4, .int 0, .int 0, .int 0, .int 0])), (q2, .inr (2, [.ref q3])), (q3, .inl (cA 2, 64, .inl (fun _ => 0))), (q4, .inl (cA 2, 2, .inl (fun _ => 0))), (q5, .inr (3, [.ref q6, .int 0])), (q6, .inl (cA 2, 415, .inl (fun _ => 0)))] H := hP
  have hD : va_D A [(h0, .inr (0, [.ref q1, .ref q5, .null, .null, .int 0])), (q1, .inr (1, [.ref q2, .ref q4, .int 0, .int 0, .int 0, .int 0])), (q2, .inr (2, [.ref q3])), (q3, .inl (cA 2, 64, .inl (fun _ => 0))), (q4, .inl (cA 2, 2, .inl (fun _ => 0))), (q5, .inr (3, [.ref q6, .int 0])), (q6, .inl (cA 2, 415, .inl (fun _ => 0)))] := hD
  refine lv_aload_n hx hb dc0_26 rfl (lv_at hl 0 rfl) ?_
  refine va_new (ci := 3) (fs := [.null, .int 0]) (C := cn 3) (T := FT 3) (N := nfl 3) hx hb htw (f_uws 3 (by decide)) (fty 3) (f_fty 3 (by decide)) hown (htw _ kl0_16) (htw _ ks3) (htw _ kn3) hK hP hD hS hA (f_cls 3 (by decide)) (fun j hj => by have hj : j < 2 := hj; rcases (show j = 0 ∨ j = 1 by omega) with rfl | rfl <;> rfl) (Nat.le_of_ble_eq_true rfl) (Nat.le_of_ble_eq_true rfl) dc0_27 (fun q7 H hP hD hS => ?_)
  have hP : va_P D cls [(h0, .inr (0, [.ref q1, .ref q5, .null, .null, .int 0])), (q1, .inr (1, [.ref q2, .ref q4, .int 0, .int 0, .int 0, .int 0])), (q2, .inr (2, [.ref q3])), (q3, .inl (cA 2, 64, .inl (fun _ => 0))), (q4, .inl (cA 2, 2, .inl (fun _ => 0))), (q5, .inr (3, [.ref q6, .int 0])), (q6, .inl (cA 2, 415, .inl (fun _ => 0))), (q7, .inr (3, [.null, .int 0]))] H := hP
  have hD : va_D A [(h0, .inr (0, [.ref q1, .ref q5, .null, .null, .int 0])), (q1, .inr (1, [.ref q2, .ref q4, .int 0, .int 0, .int 0, .int 0])), (q2, .inr (2, [.ref q3])), (q3, .inl (cA 2, 64, .inl (fun _ => 0))), (q4, .inl (cA 2, 2, .inl (fun _ => 0))), (q5, .inr (3, [.ref q6, .int 0])), (q6, .inl (cA 2, 415, .inl (fun _ => 0))), (q7, .inr (3, [.null, .int 0]))] := hD
  refine lv_dup hx hb dc0_30 rfl ?_
  have hPc := hP.sub (ws' := [(q7, .inr (3, [.null, .int 0]))]) [7] rfl
  have hDc := hD.sub (ws' := [(q7, .inr (3, [.null, .int 0]))]) [7] (by decide) rfl
  have hFc := va_free (wc := [(q7, .inr (3, [.null, .int 0]))]) hD hS hA [7] rfl
  refine va_callv (va_runIN (As := []) (rest := [.ref q7, .ref h0]) ⟨hx, hb, hml, hown, ht2⟩ (c_MoveRow l D cA q7 H.size) ⟨va_cnB 0 ht2 gc3 rfl rfl rfl hN.2.1 (htw _ kn3) (by decide +kernel) ⟨Nat.le_of_ble_eq_true rfl, Nat.le_of_ble_eq_true rfl⟩, rfl, htw _ ki3⟩ ⟨fun _ _ _ _ q => q, fun U hU hW => ⟨rfl, by rw [hU], by rw [hU]; exact hPc, va_K.moved hW.alike hK, hDc.weaken (fun _ _ _ _ => trivial)⟩⟩ rfl rfl hl.1 rfl (lv_room (Nat.le_of_ble_eq_true rfl)) dc0_31 ⟨Nat.le_of_ble_eq_true rfl, Nat.le_of_ble_eq_true rfl⟩) hS (fun q _ h => hFc q h) hFc (fun u t H1 locs ht hvm hpo hB hz1 hk1 hS => ?_)
  obtain ⟨q8, rfl⟩ : ∃ z, z = u := ⟨_, rfl⟩
  obtain ⟨hP1, hD1⟩ := hB
  rw [ht] at hP1
  obtain ⟨hP, hD⟩ := va_join (wr := [(h0, .inr (0, [.ref q1, .ref q5, .null, .null, .int 0])), (q1, .inr (1, [.ref q2, .ref q4, .int 0, .int 0, .int 0, .int 0])), (q2, .inr (2, [.ref q3])), (q3, .inl (cA 2, 64, .inl (fun _ => 0))), (q4, .inl (cA 2, 2, .inl (fun _ => 0))), (q5, .inr (3, [.ref q6, .int 0])), (q6, .inl (cA 2, 415, .inl (fun _ => 0)))]) (w1 := [(q7, .inr (3, [.ref q8, .int 0])), (q8, .inl (cA 2, 415, .inl (fun _ => 0)))]) hP hD [7] [0, 1, 2, 3, 4, 5, 6] rfl rfl (by decide) (by decide) hk1 hFc hP1 hD1
  generalize H1 = H at hP hS ⊢
  have hP : va_P D cls [(h0, .inr (0, [.ref q1, .ref q5, .null, .null, .int 0])), (q1, .inr (1, [.ref q2, .ref q4, .int 0, .int 0, .int 0, .int 0])), (q2, .inr (2, [.ref q3])), (q3, .inl (cA 2, 64, .inl (fun _ => 0))), (q4, .inl (cA 2, 2, .inl (fun _ => 0))), (q5, .inr (3, [.ref q6, .int 0])), (q6, .inl (cA 2, 415, .inl (fun _ => 0))), (q7, .inr (3, [.ref q8, .int 0])), (q8, .inl (cA 2, 415, .inl (fun _ => 0)))] H := hP
  have hD : va_D A [(h0, .inr (0, [.ref q1, .ref q5, .null, .null, .int 0])), (q1, .inr (1, [.ref q2, .ref q4, .int 0, .int 0, .int 0, .int 0])), (q2, .inr (2, [.ref q3])), (q3, .inl (cA 2, 64, .inl (fun _ => 0))), (q4, .inl (cA 2, 2, .inl (fun _ => 0))), (q5, .inr (3, [.ref q6, .int 0])), (q6, .inl (cA 2, 415, .inl (fun _ => 0))), (q7, .inr (3, [.ref q8, .int 0])), (q8, .inl (cA 2, 415, .inl (fun _ => 0)))] := hD
  refine va_putF (D := D) (ci := 0) (v := .ref q7) (ty := fty 0 2) (C := cn 0) (T := FT 0) (N := nfl 0) hx hb htw (f_uws 0 (by decide)) (fty 0) (f_fty 0 (by decide)) (f_fnm 0 (by decide)) hown hK hP hD hS 0 rfl (f_cls 0 (by decide)) 2 (by decide) (htw (fldW 0 23 0 2) (atW_mem (i := 289) (by decide +kernel))) (fun _ h9 => h9) rfl hin rfl (f_fty 0 (by decide) 2 (by decide)) rfl rfl (Nat.le_of_ble_eq_true rfl) dc0_34 (fun H locs hP hD hS => ?_)
  have hP : va_P D cls [(h0, .inr (0, [.ref q1, .ref q5, .ref q7, .null, .int 0])), (q1, .inr (1, [.ref q2, .ref q4, .int 0, .int 0, .int 0, .int 0])), (q2, .inr (2, [.ref q3])), (q3, .inl (cA 2, 64, .inl (fun _ => 0))), (q4, .inl (cA 2, 2, .inl (fun _ => 0))), (q5, .inr (3, [.ref q6, .int 0])), (q6, .inl (cA 2, 415, .inl (fun _ => 0))), (q7, .inr (3, [.ref q8, .int 0])), (q8, .inl (cA 2, 415, .inl (fun _ => 0)))] H := hP
  have hD : va_D A [(h0, .inr (0, [.ref q1, .ref q5, .ref q7, .null, .int 0])), (q1, .inr (1, [.ref q2, .ref q4, .int 0, .int 0, .int 0, .int 0])), (q2, .inr (2, [.ref q3])), (q3, .inl (cA 2, 64, .inl (fun _ => 0))), (q4, .inl (cA 2, 2, .inl (fun _ => 0))), (q5, .inr (3, [.ref q6, .int 0])), (q6, .inl (cA 2, 415, .inl (fun _ => 0))), (q7, .inr (3, [.ref q8, .int 0])), (q8, .inl (cA 2, 415, .inl (fun _ => 0)))] := hD
  refine lv_aload_n hx hb dc0_37 rfl (lv_at hl 0 rfl) ?_
  refine va_new (ci := 4) (fs := [.null, .null, .null, .null, .int 0]) (C := cn 4) (T := FT 4) (N := nfl 4) hx hb htw (f_uws 4 (by decide)) (fty 4) (f_fty 4 (by decide)) hown (htw _ kl0_26) (htw _ ks4) (htw _ kn4) hK hP hD hS hA (f_cls 4 (by decide)) (fun j hj => by have hj : j < 5 := hj; rcases (show j = 0 ∨ j = 1 ∨ j = 2 ∨ j = 3 ∨ j = 4 by omega) with rfl | rfl | rfl | rfl | rfl <;> rfl) (Nat.le_of_ble_eq_true rfl) (Nat.le_of_ble_eq_true rfl) dc0_38 (fun q9 H hP hD hS => ?_)
  have hP : va_P D cls [(h0, .inr (0, [.ref q1, .ref q5, .ref q7, .null, .int 0])), (q1, .inr (1, [.ref q2, .ref q4, .int 0, .int 0, .int 0, .int 0])), (q2, .inr (2, [.ref q3])), (q3, .inl (cA 2, 64, .inl (fun _ => 0))), (q4, .inl (cA 2, 2, .inl (fun _ => 0))), (q5, .inr (3, [.ref q6, .int 0])), (q6, .inl (cA 2, 415, .inl (fun _ => 0))), (q7, .inr (3, [.ref q8, .int 0])), (q8, .inl (cA 2, 415, .inl (fun _ => 0))), (q9, .inr (4, [.null, .null, .null, .null, .int 0]))] H := hP
  have hD : va_D A [(h0, .inr (0, [.ref q1, .ref q5, .ref q7, .null, .int 0])), (q1, .inr (1, [.ref q2, .ref q4, .int 0, .int 0, .int 0, .int 0])), (q2, .inr (2, [.ref q3])), (q3, .inl (cA 2, 64, .inl (fun _ => 0))), (q4, .inl (cA 2, 2, .inl (fun _ => 0))), (q5, .inr (3, [.ref q6, .int 0])), (q6, .inl (cA 2, 415, .inl (fun _ => 0))), (q7, .inr (3, [.ref q8, .int 0])), (q8, .inl (cA 2, 415, .inl (fun _ => 0))), (q9, .inr (4, [.null, .null, .null, .null, .int 0]))] := hD
  refine lv_dup hx hb dc0_41 rfl ?_
  have hPc := hP.sub (ws' := [(q9, .inr (4, [.null, .null, .null, .null, .int 0]))]) [9] rfl
  have hDc := hD.sub (ws' := [(q9, .inr (4, [.null, .null, .null, .null, .int 0]))]) [9] (by decide) rfl
  have hFc := va_free (wc := [(q9, .inr (4, [.null, .null, .null, .null, .int 0]))]) hD hS hA [9] rfl
  refine va_callv (va_runIN (As := []) (rest := [.ref q9, .ref h0]) ⟨hx, hb, hml, hown, ht2⟩ (c_History l D cA q9 H.size) ⟨va_cnB 0 ht2 gc4 rfl rfl rfl hN.2.2.1 (htw _ kn4) (by decide +kernel) ⟨Nat.le_of_ble_eq_true rfl, Nat.le_of_ble_eq_true rfl⟩, rfl, htw _ ki4⟩ ⟨fun _ _ _ _ q => q, fun U hU hW => ⟨rfl, by rw [hU], by rw [hU]; exact hPc, va_K.moved hW.alike hK, hDc.weaken (fun _ _ _ _ => trivial)⟩⟩ rfl rfl hl.1 rfl (lv_room (Nat.le_of_ble_eq_true rfl)) dc0_42 ⟨Nat.le_of_ble_eq_true rfl, Nat.le_of_ble_eq_true rfl⟩) hS (fun q _ h => hFc q h) hFc (fun u t H1 locs ht hvm hpo hB hz1 hk1 hS => ?_)
  obtain ⟨q10, q11, q12, q13⟩ := u
  obtain ⟨hP1, hD1⟩ := hB
  rw [ht] at hP1
  obtain ⟨hP, hD⟩ := va_join (wr := [(h0, .inr (0, [.ref q1, .ref q5, .ref q7, .null, .int 0])), (q1, .inr (1, [.ref q2, .ref q4, .int 0, .int 0, .int 0, .int 0])), (q2, .inr (2, [.ref q3])), (q3, .inl (cA 2, 64, .inl (fun _ => 0))), (q4, .inl (cA 2, 2, .inl (fun _ => 0))), (q5, .inr (3, [.ref q6, .int 0])), (q6, .inl (cA 2, 415, .inl (fun _ => 0))), (q7, .inr (3, [.ref q8, .int 0])), (q8, .inl (cA 2, 415, .inl (fun _ => 0)))]) (w1 := [(q9, .inr (4, [.ref q10, .ref q11, .ref q12, .ref q13, .int 0])), (q10, .inl (cA 2, 512, .inl (fun _ => 0))), (q11, .inl (cA 2, 512, .inl (fun _ => 0))), (q12, .inl (cA 5, 2052, .inr (.inl (fun _ => 0)))), (q13, .inl (cA 2, 513, .inl (fun _ => 0)))]) hP hD [9] [0, 1, 2, 3, 4, 5, 6, 7, 8] rfl rfl (by decide) (by decide) hk1 hFc hP1 hD1
  generalize H1 = H at hP hS ⊢
  have hP : va_P D cls [(h0, .inr (0, [.ref q1, .ref q5, .ref q7, .null, .int 0])), (q1, .inr (1, [.ref q2, .ref q4, .int 0, .int 0, .int 0, .int 0])), (q2, .inr (2, [.ref q3])), (q3, .inl (cA 2, 64, .inl (fun _ => 0))), (q4, .inl (cA 2, 2, .inl (fun _ => 0))), (q5, .inr (3, [.ref q6, .int 0])), (q6, .inl (cA 2, 415, .inl (fun _ => 0))), (q7, .inr (3, [.ref q8, .int 0])), (q8, .inl (cA 2, 415, .inl (fun _ => 0))), (q9, .inr (4, [.ref q10, .ref q11, .ref q12, .ref q13, .int 0])), (q10, .inl (cA 2, 512, .inl (fun _ => 0))), (q11, .inl (cA 2, 512, .inl (fun _ => 0))), (q12, .inl (cA 5, 2052, .inr (.inl (fun _ => 0)))), (q13, .inl (cA 2, 513, .inl (fun _ => 0)))] H := hP
  have hD : va_D A [(h0, .inr (0, [.ref q1, .ref q5, .ref q7, .null, .int 0])), (q1, .inr (1, [.ref q2, .ref q4, .int 0, .int 0, .int 0, .int 0])), (q2, .inr (2, [.ref q3])), (q3, .inl (cA 2, 64, .inl (fun _ => 0))), (q4, .inl (cA 2, 2, .inl (fun _ => 0))), (q5, .inr (3, [.ref q6, .int 0])), (q6, .inl (cA 2, 415, .inl (fun _ => 0))), (q7, .inr (3, [.ref q8, .int 0])), (q8, .inl (cA 2, 415, .inl (fun _ => 0))), (q9, .inr (4, [.ref q10, .ref q11, .ref q12, .ref q13, .int 0])), (q10, .inl (cA 2, 512, .inl (fun _ => 0))), (q11, .inl (cA 2, 512, .inl (fun _ => 0))), (q12, .inl (cA 5, 2052, .inr (.inl (fun _ => 0)))), (q13, .inl (cA 2, 513, .inl (fun _ => 0)))] := hD
  refine va_putF (D := D) (ci := 0) (v := .ref q9) (ty := fty 0 3) (C := cn 0) (T := FT 0) (N := nfl 0) hx hb htw (f_uws 0 (by decide)) (fty 0) (f_fty 0 (by decide)) (f_fnm 0 (by decide)) hown hK hP hD hS 0 rfl (f_cls 0 (by decide)) 3 (by decide) (htw (fldW 0 29 0 3) (atW_mem (i := 290) (by decide +kernel))) (fun _ h9 => h9) rfl hin rfl (f_fty 0 (by decide) 3 (by decide)) rfl rfl (Nat.le_of_ble_eq_true rfl) dc0_45 (fun H locs hP hD hS => ?_)
  have hP : va_P D cls [(h0, .inr (0, [.ref q1, .ref q5, .ref q7, .ref q9, .int 0])), (q1, .inr (1, [.ref q2, .ref q4, .int 0, .int 0, .int 0, .int 0])), (q2, .inr (2, [.ref q3])), (q3, .inl (cA 2, 64, .inl (fun _ => 0))), (q4, .inl (cA 2, 2, .inl (fun _ => 0))), (q5, .inr (3, [.ref q6, .int 0])), (q6, .inl (cA 2, 415, .inl (fun _ => 0))), (q7, .inr (3, [.ref q8, .int 0])), (q8, .inl (cA 2, 415, .inl (fun _ => 0))), (q9, .inr (4, [.ref q10, .ref q11, .ref q12, .ref q13, .int 0])), (q10, .inl (cA 2, 512, .inl (fun _ => 0))), (q11, .inl (cA 2, 512, .inl (fun _ => 0))), (q12, .inl (cA 5, 2052, .inr (.inl (fun _ => 0)))), (q13, .inl (cA 2, 513, .inl (fun _ => 0)))] H := hP
  have hD : va_D A [(h0, .inr (0, [.ref q1, .ref q5, .ref q7, .ref q9, .int 0])), (q1, .inr (1, [.ref q2, .ref q4, .int 0, .int 0, .int 0, .int 0])), (q2, .inr (2, [.ref q3])), (q3, .inl (cA 2, 64, .inl (fun _ => 0))), (q4, .inl (cA 2, 2, .inl (fun _ => 0))), (q5, .inr (3, [.ref q6, .int 0])), (q6, .inl (cA 2, 415, .inl (fun _ => 0))), (q7, .inr (3, [.ref q8, .int 0])), (q8, .inl (cA 2, 415, .inl (fun _ => 0))), (q9, .inr (4, [.ref q10, .ref q11, .ref q12, .ref q13, .int 0])), (q10, .inl (cA 2, 512, .inl (fun _ => 0))), (q11, .inl (cA 2, 512, .inl (fun _ => 0))), (q12, .inl (cA 5, 2052, .inr (.inl (fun _ => 0)))), (q13, .inl (cA 2, 513, .inl (fun _ => 0)))] := hD
  subst hAe
  have e : [(h0, .inr (0, [.ref q1, .ref q5, .ref q7, .ref q9, .int 0])), (q1, .inr (1, [.ref q2, .ref q4, .int 0, .int 0, .int 0, .int 0])), (q2, .inr (2, [.ref q3])), (q3, .inl (cA 2, 64, .inl (fun _ => 0))), (q4, .inl (cA 2, 2, .inl (fun _ => 0))), (q5, .inr (3, [.ref q6, .int 0])), (q6, .inl (cA 2, 415, .inl (fun _ => 0))), (q7, .inr (3, [.ref q8, .int 0])), (q8, .inl (cA 2, 415, .inl (fun _ => 0))), (q9, .inr (4, [.ref q10, .ref q11, .ref q12, .ref q13, .int 0])), (q10, .inl (cA 2, 512, .inl (fun _ => 0))), (q11, .inl (cA 2, 512, .inl (fun _ => 0))), (q12, .inl (cA 5, 2052, .inr (.inl (fun _ => 0)))), (q13, .inl (cA 2, 513, .inl (fun _ => 0)))] = wrl 14 cA (adC h0 q1 q2 q3 q4 q5 q6 q7 q8 q9 q10 q11 q12 q13 ad) (scrH L xs) := rfl
  rw [e] at hP hD
  have hZ2 : Stx base (adC h0 q1 q2 q3 q4 q5 q6 q7 q8 q9 q10 q11 q12 q13 ad) L xs s s.heap := hZ.ad (fun o ho => if_neg (by omega))
  have hL2 : LH (adC h0 q1 q2 q3 q4 q5 q6 q7 q8 q9 q10 q11 q12 q13 ad) 14 1 [some (.inr (.inr 0))] ls := by
    refine ⟨hl.1, hl.2.1, rfl, fun k v hk => ?_⟩
    cases k with
    | zero =>
      have hk : some (Sum.inr (Sum.inr 0)) = some v := hk
      cases hk
      exact ⟨Or.inl (by decide), hl.2.2 _ List.mem_cons_self⟩
    | succ k => cases hk
  refine sim_blk (Q := fun _ h' => cl0 (scrH L xs) h') (rk := 0) (own := 0) (nL := 1) (jump := fun _ _ _ _ => False) (d := 7) hx hb hml htw hown hK hZ2 (Or.inl rfl) ⟨Nat.le_of_ble_eq_true rfl, Nat.le_of_ble_eq_true rfl⟩ ⟨Nat.le_of_ble_eq_true rfl, Nat.le_of_ble_eq_true rfl⟩ (simM (Or.inl rfl) 7) (fun _ _ _ _ _ _ _ hrk => False.elim hrk) (fun pc lsC H locs h hd hrk hq hH => ?_) (fun _ _ _ _ z => z.elim) CB0 48 [] [some (.inr (.inr 0))] (scrH L xs) okC (ini_cls (d := 0) (scr_out L xs) (scr_mrk L xs) ⟨rfl, rfl⟩) ls H locs (fun v hv => by cases hv) hL2 ⟨hP, hD, hS, scrH_R L xs⟩
  exact W.vret hx hb hr (fun t ht hW => ⟨⟨(adC h0 q1 q2 q3 q4 q5 q6 q7 q8 q9 q10 q11 q12 q13 ad, h), rfl, ⟨⟨rfl, fun o ho => if_neg (by omega)⟩, hq⟩, by rw [ht]; exact hH.1, hH.2.1, hH.2.2.2⟩, hH.2.2.1.F ht⟩) hH.2.2.1.2.2 hd
-- the reference
def adM (h0 q15 q16 q17 q18 q19 q20 q21 q22 q23 : Nat) (ad : Nat → Nat) : Nat → Nat := fun o => if o < 14 then ad o else if o < 24 then ([h0, q15, q16, q17, q18, q19, q20, q21, q22, q23] : List Nat).getD (o - 14) 0 else ad o
def hpM (h : Hp) : Hp := (fun o j => if 14 ≤ o ∧ o < 24 then 0 else h.1 o j, fun o j => if o = 19 then 0 else h.2 o j)
theorem hpM_off (h : Hp) : offM h (hpM h) := ⟨fun p hp j => if_neg (by omega), fun p hp j => if_neg hp⟩
theorem hpM_cl {S h : Hp} (x : cl0 S h) : cl0 S (hpM h) := by
  obtain ⟨⟨k0, ll, q1, q2⟩, hf⟩ := x
  exact ⟨⟨k0, ll, q1, q2.of (hpM_off h)⟩, hf.oM (hpM_off h)⟩
theorem hpM_R {L : Nat} {xs : Nat → Int32} {h : Hp} (x : scrR L xs h) : scrR L xs (hpM h) := x
def prM0 (D : va_G) (cA : Nat → ClassId) (ad : Nat → Nat) (base L : Nat) (xs : Nat → Int32) (w : va_W) (h0 : Nat) (U : State) : Prop := va_P D cls (w ++ [(h0, .inr (5, [.null, .null, .null, .null, .int 0, .int 0, .null, .null, .null, .null, .null, .int 0, .int 0]))]) U.heap ∧ va_D (fun q : Nat => base ≤ q) (w ++ [(h0, .inr (5, [.null, .null, .null, .null, .int 0, .int 0, .null, .null, .null, .null, .null, .int 0, .int 0]))]) ∧ va_K D cls (tyL cA) U ∧ Stx base ad L xs U U.heap ∧ base ≤ U.heap.size
def poM0 (ad : Nat → Nat) (L : Nat) (xs : Nat → Int32) (h0 : Nat) (u : (Nat → Nat) × Hp) : Prop := (u.1 14 = h0 ∧ (∀ o, o < 14 → u.1 o = ad o) ∧ ∀ o, 24 ≤ o → u.1 o = ad o) ∧ gI (scrH L xs) u.2 0
theorem okM : okBlk 5 1 bc5 83 [(.return_, 1, 0, 0, 0)] = true := by decide +kernel
theorem wrl_14 (cA : Nat → ClassId) (ad : Nat → Nat) (h : Hp) : ∃ x0 x1 x2 x3 x4 x5 x6 x7 x8 x9 x10 x11 x12 x13 : Nat × va_E, wrl 14 cA ad h = [x0, x1, x2, x3, x4, x5, x6, x7, x8, x9, x10, x11, x12, x13] := ⟨_, _, _, _, _, _, _, _, _, _, _, _, _, _, rfl⟩
set_option maxHeartbeats 4000000 in
set_option maxRecDepth 100000 in
theorem c_Model (l : Launch) (D : va_G) (cA : Nat → ClassId) (ad : Nat → Nat) (base L : Nat) (xs : Nat → Int32) (h0 : Nat) (u : Hp) (hu : cl0 (scrH L xs) u) (hus : scrR L xs u) : Met l yc5 wc5 ({ frames := 12, cells := 9, slots := 4305, locals := 504 }) (va_Pc [.ref h0] (prM0 D cA ad base L xs (wrl 14 cA ad u) h0)) (va_Qv (poM0 ad L xs h0) (fun (u : (Nat → Nat) × Hp) t => PostB D cA u.1 base 24 L xs u.2 t) (fun q : Nat => base ≤ q)) 9 4305 (fun q : Nat => base ≤ q) := by
  have ew : ∀ q15 q16 q17 q18 q19 q20 q21 q22 q23 : Nat, wrl 24 cA (adM h0 q15 q16 q17 q18 q19 q20 q21 q22 q23 ad) (hpM u) = wrl 14 cA ad u ++ [(h0, .inr (5, [.ref q15, .ref q16, .ref q17, .ref q18, .int 0, .int 0, .ref q19, .ref q20, .ref q21, .ref q22, .ref q23, .int 0, .int 0])), (q15, .inl (cA 2, 192, .inl (fun _ => 0))), (q16, .inl (cA 2, 3, .inl (fun _ => 0))), (q17, .inl (cA 2, 3, .inl (fun _ => 0))), (q18, .inl (cA 2, 3, .inl (fun _ => 0))), (q19, .inl (cA 5, 2052, .inr (.inl (fun _ => 0)))), (q20, .inl (cA 3, 513, .inl (fun _ => 0))), (q21, .inl (cA 3, 513, .inl (fun _ => 0))), (q22, .inl (cA 3, 513, .inl (fun _ => 0))), (q23, .inl (cA 4, 513, .inl (fun _ => 0)))] := fun _ _ _ _ _ _ _ _ _ => rfl
  obtain ⟨x0, x1, x2, x3, x4, x5, x6, x7, x8, x9, x10, x11, x12, x13, hX⟩ := wrl_14 cA ad u
  rw [hX] at ew ⊢
  refine Met.ofW (cc := bc5) (maxL := 1) (ret := none) (by decide) rfl ?_
  intro p e s m args below meth c s₁ B hml hv
  obtain ⟨rfl, hP, hD, hK, hZ, hbs⟩ := hv
  have hx := B.exec
  have hb := B.bytes
  have hr := B.returns
  have hts := atoms_spec (ws := wc5) B.pre
  have ht2 := fun (w : Cond) (h : w ∈ WS2) => hts w (List.mem_cons_of_mem _ h)
  have htw := fun (w : Cond) (h : w ∈ WS) => ht2 w (List.mem_append_left _ h)
  have hown : s.vm.findClass (cn 5) = some m.cls := findClass_of_methodNamed B.named
  have hlocks := B.notSynchronized
  have hin : meth.name = "<init>" := (name_of_methodNamed B.named B.method).1
  generalize hAe : (fun q : Nat => base ≤ q) = A at hD
  have hA : ∀ q : Nat, s.heap.size ≤ q → A q := fun q h => by rw [← hAe]; exact Nat.le_trans hbs h
  have hS : va_S A s.heap s.heap [] := va_S.rf
  have hP : va_P D cls [x0, x1, x2, x3, x4, x5, x6, x7, x8, x9, x10, x11, x12, x13, (h0, .inr (5, [.null, .null, .null, .null, .int 0, .int 0, .null, .null, .null, .null, .null, .int 0, .int 0]))] s.heap := hP
  have hD : va_D A [x0, x1, x2, x3, x4, x5, x6, x7, x8, x9, x10, x11, x12, x13, (h0, .inr (5, [.null, .null, .null, .null, .int 0, .int 0, .null, .null, .null, .null, .null, .int 0, .int 0]))] := hD
  have hl := lv_entry ([.ref h0]) (n := 1) (Nat.le_of_ble_eq_true rfl)
  rw [lg_entry_eq]
  generalize (lg_sl ([.ref h0]) ++ List.replicate (1 - (lg_sl ([.ref h0])).length) Slot.unset).toArray = ls at hl ⊢
  have hl : lv_has ls 1 [(0, .ref h0)] := hl
  refine lv_aload_n hx hb dc5_0 rfl (lv_at hl 0 rfl) ?_
  refine W.objInit hx hb hown (htw _ ko5) (htw _ kob) (htw _ koc) rfl (by rw [hml]; exact hl.1) rfl dc5_1 (Nat.le_of_ble_eq_true rfl) (Nat.le_of_ble_eq_true rfl) ?_
  refine W.eq (g2 := F0 m 4 ls []) rfl ?_
  refine lv_aload_n hx hb dc5_4 rfl (lv_at hl 0 rfl) ?_
  refine lv_sipush (v := 192) hx hb dc5_5 (by decide) ?_
  refine va_newa (atype := .int) (ty := .int) (N' := 192) (a0 := (192, .inl (fun _ => 0))) hx hb (ht2 _ ka_int) rfl hK hP hD hS hA (fun _ => rfl) (by decide) (by decide) (by decide) (Nat.le_of_ble_eq_true rfl) (Nat.le_of_ble_eq_true rfl) dc5_8 (fun q15 ca H hK1 hP hD hS => ?_)
  obtain rfl : ca = cA 2 := arr_int hK1
  have hP : va_P D cls [x0, x1, x2, x3, x4, x5, x6, x7, x8, x9, x10, x11, x12, x13, (h0, .inr (5, [.null, .null, .null, .null, .int 0, .int 0, .null, .null, .null, .null, .null, .int 0, .int 0])), (q15, .inl (cA 2, 192, .inl (fun _ => 0)))] H := hP
  have hD : va_D A [x0, x1, x2, x3, x4, x5, x6, x7, x8, x9, x10, x11, x12, x13, (h0, .inr (5, [.null, .null, .null, .null, .int 0, .int 0, .null, .null, .null, .null, .null, .int 0, .int 0])), (q15, .inl (cA 2, 192, .inl (fun _ => 0)))] := hD
  refine va_putF (D := D) (ci := 5) (v := .ref q15) (ty := fty 5 0) (C := cn 5) (T := FT 5) (N := nfl 5) hx hb htw (f_uws 5 (by decide)) (fty 5) (f_fty 5 (by decide)) (f_fnm 5 (by decide)) hown hK hP hD hS 14 rfl (f_cls 5 (by decide)) 0 (by decide) (htw (fldW 5 7 5 0) (atW_mem (i := 556) (by decide +kernel))) (fun _ h9 => h9) rfl hin rfl (f_fty 5 (by decide) 0 (by decide)) rfl rfl (Nat.le_of_ble_eq_true rfl) dc5_10 (fun H locs hP hD hS => ?_)
  have hP : va_P D cls [x0, x1, x2, x3, x4, x5, x6, x7, x8, x9, x10, x11, x12, x13, (h0, .inr (5, [.ref q15, .null, .null, .null, .int 0, .int 0, .null, .null, .null, .null, .null, .int 0, .int 0])), (q15, .inl (cA 2, 192, .inl (fun _ => 0)))] H := hP
  have hD : va_D A [x0, x1, x2, x3, x4, x5, x6, x7, x8, x9, x10, x11, x12, x13, (h0, .inr (5, [.ref q15, .null, .null, .null, .int 0, .int 0, .null, .null, .null, .null, .null, .int 0, .int 0])), (q15, .inl (cA 2, 192, .inl (fun _ => 0)))] := hD
  refine lv_aload_n hx hb dc5_13 rfl (lv_at hl 0 rfl) ?_
  refine lv_iconst (v := 3) hx hb dc5_14 (by decide) ?_
  refine va_newa (atype := .int) (ty := .int) (N' := 3) (a0 := (3, .inl (fun _ => 0))) hx hb (ht2 _ ka_int) rfl hK hP hD hS hA (fun _ => rfl) (by decide) (by decide) (by decide) (Nat.le_of_ble_eq_true rfl) (Nat.le_of_ble_eq_true rfl) dc5_15 (fun q16 ca H hK1 hP hD hS => ?_)
  obtain rfl : ca = cA 2 := arr_int hK1
  have hP : va_P D cls [x0, x1, x2, x3, x4, x5, x6, x7, x8, x9, x10, x11, x12, x13, (h0, .inr (5, [.ref q15, .null, .null, .null, .int 0, .int 0, .null, .null, .null, .null, .null, .int 0, .int 0])), (q15, .inl (cA 2, 192, .inl (fun _ => 0))), (q16, .inl (cA 2, 3, .inl (fun _ => 0)))] H := hP
  have hD : va_D A [x0, x1, x2, x3, x4, x5, x6, x7, x8, x9, x10, x11, x12, x13, (h0, .inr (5, [.ref q15, .null, .null, .null, .int 0, .int 0, .null, .null, .null, .null, .null, .int 0, .int 0])), (q15, .inl (cA 2, 192, .inl (fun _ => 0))), (q16, .inl (cA 2, 3, .inl (fun _ => 0)))] := hD
  refine va_putF (D := D) (ci := 5) (v := .ref q16) (ty := fty 5 1) (C := cn 5) (T := FT 5) (N := nfl 5) hx hb htw (f_uws 5 (by decide)) (fty 5) (f_fty 5 (by decide)) (f_fnm 5 (by decide)) hown hK hP hD hS 14 rfl (f_cls 5 (by decide)) 1 (by decide) (htw (fldW 5 13 5 1) (atW_mem (i := 557) (by decide +kernel))) (fun _ h9 => h9) rfl hin rfl (f_fty 5 (by decide) 1 (by decide)) rfl rfl (Nat.le_of_ble_eq_true rfl) dc5_17 (fun H locs hP hD hS => ?_)
  have hP : va_P D cls [x0, x1, x2, x3, x4, x5, x6, x7, x8, x9, x10, x11, x12, x13, (h0, .inr (5, [.ref q15, .ref q16, .null, .null, .int 0, .int 0, .null, .null, .null, .null, .null, .int 0, .int 0])), (q15, .inl (cA 2, 192, .inl (fun _ => 0))), (q16, .inl (cA 2, 3, .inl (fun _ => 0)))] H := hP
  have hD : va_D A [x0, x1, x2, x3, x4, x5, x6, x7, x8, x9, x10, x11, x12, x13, (h0, .inr (5, [.ref q15, .ref q16, .null, .null, .int 0, .int 0, .null, .null, .null, .null, .null, .int 0, .int 0])), (q15, .inl (cA 2, 192, .inl (fun _ => 0))), (q16, .inl (cA 2, 3, .inl (fun _ => 0)))] := hD
  refine lv_aload_n hx hb dc5_20 rfl (lv_at hl 0 rfl) ?_
  refine lv_iconst (v := 3) hx hb dc5_21 (by decide) ?_
  refine va_newa (atype := .int) (ty := .int) (N' := 3) (a0 := (3, .inl (fun _ => 0))) hx hb (ht2 _ ka_int) rfl hK hP hD hS hA (fun _ => rfl) (by decide) (by decide) (by decide) (Nat.le_of_ble_eq_true rfl) (Nat.le_of_ble_eq_true rfl) dc5_22 (fun q17 ca H hK1 hP hD hS => ?_)
  obtain rfl : ca = cA 2 := arr_int hK1
  have hP : va_P D cls [x0, x1, x2, x3, x4, x5, x6, x7, x8, x9, x10, x11, x12, x13, (h0, .inr (5, [.ref q15, .ref q16, .null, .null, .int 0, .int 0, .null, .null, .null, .null, .null, .int 0, .int 0])), (q15, .inl (cA 2, 192, .inl (fun _ => 0))), (q16, .inl (cA 2, 3, .inl (fun _ => 0))), (q17, .inl (cA 2, 3, .inl (fun _ => 0)))] H := hP
  have hD : va_D A [x0, x1, x2, x3, x4, x5, x6, x7, x8, x9, x10, x11, x12, x13, (h0, .inr (5, [.ref q15, .ref q16, .null, .null, .int 0, .int 0, .null, .null, .null, .null, .null, .int 0, .int 0])), (q15, .inl (cA 2, 192, .inl (fun _ => 0))), (q16, .inl (cA 2, 3, .inl (fun _ => 0))), (q17, .inl (cA 2, 3, .inl (fun _ => 0)))] := hD
  refine va_putF (D := D) (ci := 5) (v := .ref q17) (ty := fty 5 2) (C := cn 5) (T := FT 5) (N := nfl 5) hx hb htw (f_uws 5 (by decide)) (fty 5) (f_fty 5 (by decide)) (f_fnm 5 (by decide)) hown hK hP hD hS 14 rfl (f_cls 5 (by decide)) 2 (by decide) (htw (fldW 5 16 5 2) (atW_mem (i := 558) (by decide +kernel))) (fun _ h9 => h9) rfl hin rfl (f_fty 5 (by decide) 2 (by decide)) rfl rfl (Nat.le_of_ble_eq_true rfl) dc5_24 (fun H locs hP hD hS => ?_)
  have hP : va_P D cls [x0, x1, x2, x3, x4, x5, x6, x7, x8, x9, x10, x11, x12, x13, (h0, .inr (5, [.ref q15, .ref q16, .ref q17, .null, .int 0, .int 0, .null, .null, .null, .null, .null, .int 0, .int 0])), (q15, .inl (cA 2, 192, .inl (fun _ => 0))), (q16, .inl (cA 2, 3, .inl (fun _ => 0))), (q17, .inl (cA 2, 3, .inl (fun _ => 0)))] H := hP
  have hD : va_D A [x0, x1, x2, x3, x4, x5, x6, x7, x8, x9, x10, x11, x12, x13, (h0, .inr (5, [.ref q15, .ref q16, .ref q17, .null, .int 0, .int 0, .null, .null, .null, .null, .null, .int 0, .int 0])), (q15, .inl (cA 2, 192, .inl (fun _ => 0))), (q16, .inl (cA 2, 3, .inl (fun _ => 0))), (q17, .inl (cA 2, 3, .inl (fun _ => 0)))] := hD
  refine lv_aload_n hx hb dc5_27 rfl (lv_at hl 0 rfl) ?_
  refine lv_iconst (v := 3) hx hb dc5_28 (by decide) ?_
  refine va_newa (atype := .int) (ty := .int) (N' := 3) (a0 := (3, .inl (fun _ => 0))) hx hb (ht2 _ ka_int) rfl hK hP hD hS hA (fun _ => rfl) (by decide) (by decide) (by decide) (Nat.le_of_ble_eq_true rfl) (Nat.le_of_ble_eq_true rfl) dc5_29 (fun q18 ca H hK1 hP hD hS => ?_)
  obtain rfl : ca = cA 2 := arr_int hK1
  have hP : va_P D cls [x0, x1, x2, x3, x4, x5, x6, x7, x8, x9, x10, x11, x12, x13, (h0, .inr (5, [.ref q15, .ref q16, .ref q17, .null, .int 0, .int 0, .null, .null, .null, .null, .null, .int 0, .int 0])), (q15, .inl (cA 2, 192, .inl (fun _ => 0))), (q16, .inl (cA 2, 3, .inl (fun _ => 0))), (q17, .inl (cA 2, 3, .inl (fun _ => 0))), (q18, .inl (cA 2, 3, .inl (fun _ => 0)))] H := hP
  have hD : va_D A [x0, x1, x2, x3, x4, x5, x6, x7, x8, x9, x10, x11, x12, x13, (h0, .inr (5, [.ref q15, .ref q16, .ref q17, .null, .int 0, .int 0, .null, .null, .null, .null, .null, .int 0, .int 0])), (q15, .inl (cA 2, 192, .inl (fun _ => 0))), (q16, .inl (cA 2, 3, .inl (fun _ => 0))), (q17, .inl (cA 2, 3, .inl (fun _ => 0))), (q18, .inl (cA 2, 3, .inl (fun _ => 0)))] := hD
  refine va_putF (D := D) (ci := 5) (v := .ref q18) (ty := fty 5 3) (C := cn 5) (T := FT 5) (N := nfl 5) hx hb htw (f_uws 5 (by decide)) (fty 5) (f_fty 5 (by decide)) (f_fnm 5 (by decide)) hown hK hP hD hS 14 rfl (f_cls 5 (by decide)) 3 (by decide) (htw (fldW 5 19 5 3) (atW_mem (i := 559) (by decide +kernel))) (fun _ h9 => h9) rfl hin rfl (f_fty 5 (by decide) 3 (by decide)) rfl rfl (Nat.le_of_ble_eq_true rfl) dc5_31 (fun H locs hP hD hS => ?_)
  have hP : va_P D cls [x0, x1, x2, x3, x4, x5, x6, x7, x8, x9, x10, x11, x12, x13, (h0, .inr (5, [.ref q15, .ref q16, .ref q17, .ref q18, .int 0, .int 0, .null, .null, .null, .null, .null, .int 0, .int 0])), (q15, .inl (cA 2, 192, .inl (fun _ => 0))), (q16, .inl (cA 2, 3, .inl (fun _ => 0))), (q17, .inl (cA 2, 3, .inl (fun _ => 0))), (q18, .inl (cA 2, 3, .inl (fun _ => 0)))] H := hP
  have hD : va_D A [x0, x1, x2, x3, x4, x5, x6, x7, x8, x9, x10, x11, x12, x13, (h0, .inr (5, [.ref q15, .ref q16, .ref q17, .ref q18, .int 0, .int 0, .null, .null, .null, .null, .null, .int 0, .int 0])), (q15, .inl (cA 2, 192, .inl (fun _ => 0))), (q16, .inl (cA 2, 3, .inl (fun _ => 0))), (q17, .inl (cA 2, 3, .inl (fun _ => 0))), (q18, .inl (cA 2, 3, .inl (fun _ => 0)))] := hD
  refine lv_aload_n hx hb dc5_34 rfl (lv_at hl 0 rfl) ?_
  refine lv_sipush (v := 2052) hx hb dc5_35 (by decide) ?_
  refine va_newa (atype := .long) (ty := .long) (N' := 2052) (a0 := (2052, .inr (.inl (fun _ => 0)))) hx hb (ht2 _ ka_long) rfl hK hP hD hS hA (fun _ => rfl) (by decide) (by decide) (by decide) (Nat.le_of_ble_eq_true rfl) (Nat.le_of_ble_eq_true rfl) dc5_38 (fun q19 ca H hK1 hP hD hS => ?_)
  obtain rfl : ca = cA 5 := arr_long hK1
  have hP : va_P D cls [x0, x1, x2, x3, x4, x5, x6, x7, x8, x9, x10, x11, x12, x13, (h0, .inr (5, [.ref q15, .ref q16, .ref q17, .ref q18, .int 0, .int 0, .null, .null, .null, .null, .null, .int 0, .int 0])), (q15, .inl (cA 2, 192, .inl (fun _ => 0))), (q16, .inl (cA 2, 3, .inl (fun _ => 0))), (q17, .inl (cA 2, 3, .inl (fun _ => 0))), (q18, .inl (cA 2, 3, .inl (fun _ => 0))), (q19, .inl (cA 5, 2052, .inr (.inl (fun _ => 0))))] H := hP
  have hD : va_D A [x0, x1, x2, x3, x4, x5, x6, x7, x8, x9, x10, x11, x12, x13, (h0, .inr (5, [.ref q15, .ref q16, .ref q17, .ref q18, .int 0, .int 0, .null, .null, .null, .null, .null, .int 0, .int 0])), (q15, .inl (cA 2, 192, .inl (fun _ => 0))), (q16, .inl (cA 2, 3, .inl (fun _ => 0))), (q17, .inl (cA 2, 3, .inl (fun _ => 0))), (q18, .inl (cA 2, 3, .inl (fun _ => 0))), (q19, .inl (cA 5, 2052, .inr (.inl (fun _ => 0))))] := hD
  refine va_putF (D := D) (ci := 5) (v := .ref q19) (ty := fty 5 6) (C := cn 5) (T := FT 5) (N := nfl 5) hx hb htw (f_uws 5 (by decide)) (fty 5) (f_fty 5 (by decide)) (f_fnm 5 (by decide)) hown hK hP hD hS 14 rfl (f_cls 5 (by decide)) 6 (by decide) (htw (fldW 5 22 5 6) (atW_mem (i := 562) (by decide +kernel))) (fun _ h9 => h9) rfl hin rfl (f_fty 5 (by decide) 6 (by decide)) rfl rfl (Nat.le_of_ble_eq_true rfl) dc5_40 (fun H locs hP hD hS => ?_)
  have hP : va_P D cls [x0, x1, x2, x3, x4, x5, x6, x7, x8, x9, x10, x11, x12, x13, (h0, .inr (5, [.ref q15, .ref q16, .ref q17, .ref q18, .int 0, .int 0, .ref q19, .null, .null, .null, .null, .int 0, .int 0])), (q15, .inl (cA 2, 192, .inl (fun _ => 0))), (q16, .inl (cA 2, 3, .inl (fun _ => 0))), (q17, .inl (cA 2, 3, .inl (fun _ => 0))), (q18, .inl (cA 2, 3, .inl (fun _ => 0))), (q19, .inl (cA 5, 2052, .inr (.inl (fun _ => 0))))] H := hP
  have hD : va_D A [x0, x1, x2, x3, x4, x5, x6, x7, x8, x9, x10, x11, x12, x13, (h0, .inr (5, [.ref q15, .ref q16, .ref q17, .ref q18, .int 0, .int 0, .ref q19, .null, .null, .null, .null, .int 0, .int 0])), (q15, .inl (cA 2, 192, .inl (fun _ => 0))), (q16, .inl (cA 2, 3, .inl (fun _ => 0))), (q17, .inl (cA 2, 3, .inl (fun _ => 0))), (q18, .inl (cA 2, 3, .inl (fun _ => 0))), (q19, .inl (cA 5, 2052, .inr (.inl (fun _ => 0))))] := hD
  refine lv_aload_n hx hb dc5_43 rfl (lv_at hl 0 rfl) ?_
  refine lv_sipush (v := 513) hx hb dc5_44 (by decide) ?_
  refine va_newa (atype := .byte) (ty := .byte) (N' := 513) (a0 := (513, .inl (fun _ => 0))) hx hb (ht2 _ ka_byte) rfl hK hP hD hS hA (fun _ => rfl) (by decide) (by decide) (by decide) (Nat.le_of_ble_eq_true rfl) (Nat.le_of_ble_eq_true rfl) dc5_47 (fun q20 ca H hK1 hP hD hS => ?_)
  obtain rfl : ca = cA 3 := arr_byte hK1
  have hP : va_P D cls [x0, x1, x2, x3, x4, x5, x6, x7, x8, x9, x10, x11, x12, x13, (h0, .inr (5, [.ref q15, .ref q16, .ref q17, .ref q18, .int 0, .int 0, .ref q19, .null, .null, .null, .null, .int 0, .int 0])), (q15, .inl (cA 2, 192, .inl (fun _ => 0))), (q16, .inl (cA 2, 3, .inl (fun _ => 0))), (q17, .inl (cA 2, 3, .inl (fun _ => 0))), (q18, .inl (cA 2, 3, .inl (fun _ => 0))), (q19, .inl (cA 5, 2052, .inr (.inl (fun _ => 0)))), (q20, .inl (cA 3, 513, .inl (fun _ => 0)))] H := hP
  have hD : va_D A [x0, x1, x2, x3, x4, x5, x6, x7, x8, x9, x10, x11, x12, x13, (h0, .inr (5, [.ref q15, .ref q16, .ref q17, .ref q18, .int 0, .int 0, .ref q19, .null, .null, .null, .null, .int 0, .int 0])), (q15, .inl (cA 2, 192, .inl (fun _ => 0))), (q16, .inl (cA 2, 3, .inl (fun _ => 0))), (q17, .inl (cA 2, 3, .inl (fun _ => 0))), (q18, .inl (cA 2, 3, .inl (fun _ => 0))), (q19, .inl (cA 5, 2052, .inr (.inl (fun _ => 0)))), (q20, .inl (cA 3, 513, .inl (fun _ => 0)))] := hD
  refine va_putF (D := D) (ci := 5) (v := .ref q20) (ty := fty 5 7) (C := cn 5) (T := FT 5) (N := nfl 5) hx hb htw (f_uws 5 (by decide)) (fty 5) (f_fty 5 (by decide)) (f_fnm 5 (by decide)) hown hK hP hD hS 14 rfl (f_cls 5 (by decide)) 7 (by decide) (htw (fldW 5 26 5 7) (atW_mem (i := 563) (by decide +kernel))) (fun _ h9 => h9) rfl hin rfl (f_fty 5 (by decide) 7 (by decide)) rfl rfl (Nat.le_of_ble_eq_true rfl) dc5_49 (fun H locs hP hD hS => ?_)
  have hP : va_P D cls [x0, x1, x2, x3, x4, x5, x6, x7, x8, x9, x10, x11, x12, x13, (h0, .inr (5, [.ref q15, .ref q16, .ref q17, .ref q18, .int 0, .int 0, .ref q19, .ref q20, .null, .null, .null, .int 0, .int 0])), (q15, .inl (cA 2, 192, .inl (fun _ => 0))), (q16, .inl (cA 2, 3, .inl (fun _ => 0))), (q17, .inl (cA 2, 3, .inl (fun _ => 0))), (q18, .inl (cA 2, 3, .inl (fun _ => 0))), (q19, .inl (cA 5, 2052, .inr (.inl (fun _ => 0)))), (q20, .inl (cA 3, 513, .inl (fun _ => 0)))] H := hP
  have hD : va_D A [x0, x1, x2, x3, x4, x5, x6, x7, x8, x9, x10, x11, x12, x13, (h0, .inr (5, [.ref q15, .ref q16, .ref q17, .ref q18, .int 0, .int 0, .ref q19, .ref q20, .null, .null, .null, .int 0, .int 0])), (q15, .inl (cA 2, 192, .inl (fun _ => 0))), (q16, .inl (cA 2, 3, .inl (fun _ => 0))), (q17, .inl (cA 2, 3, .inl (fun _ => 0))), (q18, .inl (cA 2, 3, .inl (fun _ => 0))), (q19, .inl (cA 5, 2052, .inr (.inl (fun _ => 0)))), (q20, .inl (cA 3, 513, .inl (fun _ => 0)))] := hD
  refine lv_aload_n hx hb dc5_52 rfl (lv_at hl 0 rfl) ?_
  refine lv_sipush (v := 513) hx hb dc5_53 (by decide) ?_
  refine va_newa (atype := .byte) (ty := .byte) (N' := 513) (a0 := (513, .inl (fun _ => 0))) hx hb (ht2 _ ka_byte) rfl hK hP hD hS hA (fun _ => rfl) (by decide) (by decide) (by decide) (Nat.le_of_ble_eq_true rfl) (Nat.le_of_ble_eq_true rfl) dc5_56 (fun q21 ca H hK1 hP hD hS => ?_)
  obtain rfl : ca = cA 3 := arr_byte hK1
  have hP : va_P D cls [x0, x1, x2, x3, x4, x5, x6, x7, x8, x9, x10, x11, x12, x13, (h0, .inr (5, [.ref q15, .ref q16, .ref q17, .ref q18, .int 0, .int 0, .ref q19, .ref q20, .null, .null, .null, .int 0, .int 0])), (q15, .inl (cA 2, 192, .inl (fun _ => 0))), (q16, .inl (cA 2, 3, .inl (fun _ => 0))), (q17, .inl (cA 2, 3, .inl (fun _ => 0))), (q18, .inl (cA 2, 3, .inl (fun _ => 0))), (q19, .inl (cA 5, 2052, .inr (.inl (fun _ => 0)))), (q20, .inl (cA 3, 513, .inl (fun _ => 0))), (q21, .inl (cA 3, 513, .inl (fun _ => 0)))] H := hP
  have hD : va_D A [x0, x1, x2, x3, x4, x5, x6, x7, x8, x9, x10, x11, x12, x13, (h0, .inr (5, [.ref q15, .ref q16, .ref q17, .ref q18, .int 0, .int 0, .ref q19, .ref q20, .null, .null, .null, .int 0, .int 0])), (q15, .inl (cA 2, 192, .inl (fun _ => 0))), (q16, .inl (cA 2, 3, .inl (fun _ => 0))), (q17, .inl (cA 2, 3, .inl (fun _ => 0))), (q18, .inl (cA 2, 3, .inl (fun _ => 0))), (q19, .inl (cA 5, 2052, .inr (.inl (fun _ => 0)))), (q20, .inl (cA 3, 513, .inl (fun _ => 0))), (q21, .inl (cA 3, 513, .inl (fun _ => 0)))] := hD
  refine va_putF (D := D) (ci := 5) (v := .ref q21) (ty := fty 5 8) (C := cn 5) (T := FT 5) (N := nfl 5) hx hb htw (f_uws 5 (by decide)) (fty 5) (f_fty 5 (by decide)) (f_fnm 5 (by decide)) hown hK hP hD hS 14 rfl (f_cls 5 (by decide)) 8 (by decide) (htw (fldW 5 30 5 8) (atW_mem (i := 564) (by decide +kernel))) (fun _ h9 => h9) rfl hin rfl (f_fty 5 (by decide) 8 (by decide)) rfl rfl (Nat.le_of_ble_eq_true rfl) dc5_58 (fun H locs hP hD hS => ?_)
  have hP : va_P D cls [x0, x1, x2, x3, x4, x5, x6, x7, x8, x9, x10, x11, x12, x13, (h0, .inr (5, [.ref q15, .ref q16, .ref q17, .ref q18, .int 0, .int 0, .ref q19, .ref q20, .ref q21, .null, .null, .int 0, .int 0])), (q15, .inl (cA 2, 192, .inl (fun _ => 0))), (q16, .inl (cA 2, 3, .inl (fun _ => 0))), (q17, .inl (cA 2, 3, .inl (fun _ => 0))), (q18, .inl (cA 2, 3, .inl (fun _ => 0))), (q19, .inl (cA 5, 2052, .inr (.inl (fun _ => 0)))), (q20, .inl (cA 3, 513, .inl (fun _ => 0))), (q21, .inl (cA 3, 513, .inl (fun _ => 0)))] H := hP
  have hD : va_D A [x0, x1, x2, x3, x4, x5, x6, x7, x8, x9, x10, x11, x12, x13, (h0, .inr (5, [.ref q15, .ref q16, .ref q17, .ref q18, .int 0, .int 0, .ref q19, .ref q20, .ref q21, .null, .null, .int 0, .int 0])), (q15, .inl (cA 2, 192, .inl (fun _ => 0))), (q16, .inl (cA 2, 3, .inl (fun _ => 0))), (q17, .inl (cA 2, 3, .inl (fun _ => 0))), (q18, .inl (cA 2, 3, .inl (fun _ => 0))), (q19, .inl (cA 5, 2052, .inr (.inl (fun _ => 0)))), (q20, .inl (cA 3, 513, .inl (fun _ => 0))), (q21, .inl (cA 3, 513, .inl (fun _ => 0)))] := hD
  refine lv_aload_n hx hb dc5_61 rfl (lv_at hl 0 rfl) ?_
  refine lv_sipush (v := 513) hx hb dc5_62 (by decide) ?_
  refine va_newa (atype := .byte) (ty := .byte) (N' := 513) (a0 := (513, .inl (fun _ => 0))) hx hb (ht2 _ ka_byte) rfl hK hP hD hS hA (fun _ => rfl) (by decide) (by decide) (by decide) (Nat.le_of_ble_eq_true rfl) (Nat.le_of_ble_eq_true rfl) dc5_65 (fun q22 ca H hK1 hP hD hS => ?_)
  obtain rfl : ca = cA 3 := arr_byte hK1
  have hP : va_P D cls [x0, x1, x2, x3, x4, x5, x6, x7, x8, x9, x10, x11, x12, x13, (h0, .inr (5, [.ref q15, .ref q16, .ref q17, .ref q18, .int 0, .int 0, .ref q19, .ref q20, .ref q21, .null, .null, .int 0, .int 0])), (q15, .inl (cA 2, 192, .inl (fun _ => 0))), (q16, .inl (cA 2, 3, .inl (fun _ => 0))), (q17, .inl (cA 2, 3, .inl (fun _ => 0))), (q18, .inl (cA 2, 3, .inl (fun _ => 0))), (q19, .inl (cA 5, 2052, .inr (.inl (fun _ => 0)))), (q20, .inl (cA 3, 513, .inl (fun _ => 0))), (q21, .inl (cA 3, 513, .inl (fun _ => 0))), (q22, .inl (cA 3, 513, .inl (fun _ => 0)))] H := hP
  have hD : va_D A [x0, x1, x2, x3, x4, x5, x6, x7, x8, x9, x10, x11, x12, x13, (h0, .inr (5, [.ref q15, .ref q16, .ref q17, .ref q18, .int 0, .int 0, .ref q19, .ref q20, .ref q21, .null, .null, .int 0, .int 0])), (q15, .inl (cA 2, 192, .inl (fun _ => 0))), (q16, .inl (cA 2, 3, .inl (fun _ => 0))), (q17, .inl (cA 2, 3, .inl (fun _ => 0))), (q18, .inl (cA 2, 3, .inl (fun _ => 0))), (q19, .inl (cA 5, 2052, .inr (.inl (fun _ => 0)))), (q20, .inl (cA 3, 513, .inl (fun _ => 0))), (q21, .inl (cA 3, 513, .inl (fun _ => 0))), (q22, .inl (cA 3, 513, .inl (fun _ => 0)))] := hD
  refine va_putF (D := D) (ci := 5) (v := .ref q22) (ty := fty 5 9) (C := cn 5) (T := FT 5) (N := nfl 5) hx hb htw (f_uws 5 (by decide)) (fty 5) (f_fty 5 (by decide)) (f_fnm 5 (by decide)) hown hK hP hD hS 14 rfl (f_cls 5 (by decide)) 9 (by decide) (htw (fldW 5 33 5 9) (atW_mem (i := 565) (by decide +kernel))) (fun _ h9 => h9) rfl hin rfl (f_fty 5 (by decide) 9 (by decide)) rfl rfl (Nat.le_of_ble_eq_true rfl) dc5_67 (fun H locs hP hD hS => ?_)
  have hP : va_P D cls [x0, x1, x2, x3, x4, x5, x6, x7, x8, x9, x10, x11, x12, x13, (h0, .inr (5, [.ref q15, .ref q16, .ref q17, .ref q18, .int 0, .int 0, .ref q19, .ref q20, .ref q21, .ref q22, .null, .int 0, .int 0])), (q15, .inl (cA 2, 192, .inl (fun _ => 0))), (q16, .inl (cA 2, 3, .inl (fun _ => 0))), (q17, .inl (cA 2, 3, .inl (fun _ => 0))), (q18, .inl (cA 2, 3, .inl (fun _ => 0))), (q19, .inl (cA 5, 2052, .inr (.inl (fun _ => 0)))), (q20, .inl (cA 3, 513, .inl (fun _ => 0))), (q21, .inl (cA 3, 513, .inl (fun _ => 0))), (q22, .inl (cA 3, 513, .inl (fun _ => 0)))] H := hP
  have hD : va_D A [x0, x1, x2, x3, x4, x5, x6, x7, x8, x9, x10, x11, x12, x13, (h0, .inr (5, [.ref q15, .ref q16, .ref q17, .ref q18, .int 0, .int 0, .ref q19, .ref q20, .ref q21, .ref q22, .null, .int 0, .int 0])), (q15, .inl (cA 2, 192, .inl (fun _ => 0))), (q16, .inl (cA 2, 3, .inl (fun _ => 0))), (q17, .inl (cA 2, 3, .inl (fun _ => 0))), (q18, .inl (cA 2, 3, .inl (fun _ => 0))), (q19, .inl (cA 5, 2052, .inr (.inl (fun _ => 0)))), (q20, .inl (cA 3, 513, .inl (fun _ => 0))), (q21, .inl (cA 3, 513, .inl (fun _ => 0))), (q22, .inl (cA 3, 513, .inl (fun _ => 0)))] := hD
  refine lv_aload_n hx hb dc5_70 rfl (lv_at hl 0 rfl) ?_
  refine lv_sipush (v := 513) hx hb dc5_71 (by decide) ?_
  refine va_newa (atype := .short) (ty := .short) (N' := 513) (a0 := (513, .inl (fun _ => 0))) hx hb (ht2 _ ka_short) rfl hK hP hD hS hA (fun _ => rfl) (by decide) (by decide) (by decide) (Nat.le_of_ble_eq_true rfl) (Nat.le_of_ble_eq_true rfl) dc5_74 (fun q23 ca H hK1 hP hD hS => ?_)
  obtain rfl : ca = cA 4 := arr_short hK1
  have hP : va_P D cls [x0, x1, x2, x3, x4, x5, x6, x7, x8, x9, x10, x11, x12, x13, (h0, .inr (5, [.ref q15, .ref q16, .ref q17, .ref q18, .int 0, .int 0, .ref q19, .ref q20, .ref q21, .ref q22, .null, .int 0, .int 0])), (q15, .inl (cA 2, 192, .inl (fun _ => 0))), (q16, .inl (cA 2, 3, .inl (fun _ => 0))), (q17, .inl (cA 2, 3, .inl (fun _ => 0))), (q18, .inl (cA 2, 3, .inl (fun _ => 0))), (q19, .inl (cA 5, 2052, .inr (.inl (fun _ => 0)))), (q20, .inl (cA 3, 513, .inl (fun _ => 0))), (q21, .inl (cA 3, 513, .inl (fun _ => 0))), (q22, .inl (cA 3, 513, .inl (fun _ => 0))), (q23, .inl (cA 4, 513, .inl (fun _ => 0)))] H := hP
  have hD : va_D A [x0, x1, x2, x3, x4, x5, x6, x7, x8, x9, x10, x11, x12, x13, (h0, .inr (5, [.ref q15, .ref q16, .ref q17, .ref q18, .int 0, .int 0, .ref q19, .ref q20, .ref q21, .ref q22, .null, .int 0, .int 0])), (q15, .inl (cA 2, 192, .inl (fun _ => 0))), (q16, .inl (cA 2, 3, .inl (fun _ => 0))), (q17, .inl (cA 2, 3, .inl (fun _ => 0))), (q18, .inl (cA 2, 3, .inl (fun _ => 0))), (q19, .inl (cA 5, 2052, .inr (.inl (fun _ => 0)))), (q20, .inl (cA 3, 513, .inl (fun _ => 0))), (q21, .inl (cA 3, 513, .inl (fun _ => 0))), (q22, .inl (cA 3, 513, .inl (fun _ => 0))), (q23, .inl (cA 4, 513, .inl (fun _ => 0)))] := hD
  refine va_putF (D := D) (ci := 5) (v := .ref q23) (ty := fty 5 10) (C := cn 5) (T := FT 5) (N := nfl 5) hx hb htw (f_uws 5 (by decide)) (fty 5) (f_fty 5 (by decide)) (f_fnm 5 (by decide)) hown hK hP hD hS 14 rfl (f_cls 5 (by decide)) 10 (by decide) (htw (fldW 5 36 5 10) (atW_mem (i := 566) (by decide +kernel))) (fun _ h9 => h9) rfl hin rfl (f_fty 5 (by decide) 10 (by decide)) rfl rfl (Nat.le_of_ble_eq_true rfl) dc5_76 (fun H locs hP hD hS => ?_)
  have hP : va_P D cls [x0, x1, x2, x3, x4, x5, x6, x7, x8, x9, x10, x11, x12, x13, (h0, .inr (5, [.ref q15, .ref q16, .ref q17, .ref q18, .int 0, .int 0, .ref q19, .ref q20, .ref q21, .ref q22, .ref q23, .int 0, .int 0])), (q15, .inl (cA 2, 192, .inl (fun _ => 0))), (q16, .inl (cA 2, 3, .inl (fun _ => 0))), (q17, .inl (cA 2, 3, .inl (fun _ => 0))), (q18, .inl (cA 2, 3, .inl (fun _ => 0))), (q19, .inl (cA 5, 2052, .inr (.inl (fun _ => 0)))), (q20, .inl (cA 3, 513, .inl (fun _ => 0))), (q21, .inl (cA 3, 513, .inl (fun _ => 0))), (q22, .inl (cA 3, 513, .inl (fun _ => 0))), (q23, .inl (cA 4, 513, .inl (fun _ => 0)))] H := hP
  have hD : va_D A [x0, x1, x2, x3, x4, x5, x6, x7, x8, x9, x10, x11, x12, x13, (h0, .inr (5, [.ref q15, .ref q16, .ref q17, .ref q18, .int 0, .int 0, .ref q19, .ref q20, .ref q21, .ref q22, .ref q23, .int 0, .int 0])), (q15, .inl (cA 2, 192, .inl (fun _ => 0))), (q16, .inl (cA 2, 3, .inl (fun _ => 0))), (q17, .inl (cA 2, 3, .inl (fun _ => 0))), (q18, .inl (cA 2, 3, .inl (fun _ => 0))), (q19, .inl (cA 5, 2052, .inr (.inl (fun _ => 0)))), (q20, .inl (cA 3, 513, .inl (fun _ => 0))), (q21, .inl (cA 3, 513, .inl (fun _ => 0))), (q22, .inl (cA 3, 513, .inl (fun _ => 0))), (q23, .inl (cA 4, 513, .inl (fun _ => 0)))] := hD
  subst hAe
  have e : [x0, x1, x2, x3, x4, x5, x6, x7, x8, x9, x10, x11, x12, x13, (h0, .inr (5, [.ref q15, .ref q16, .ref q17, .ref q18, .int 0, .int 0, .ref q19, .ref q20, .ref q21, .ref q22, .ref q23, .int 0, .int 0])), (q15, .inl (cA 2, 192, .inl (fun _ => 0))), (q16, .inl (cA 2, 3, .inl (fun _ => 0))), (q17, .inl (cA 2, 3, .inl (fun _ => 0))), (q18, .inl (cA 2, 3, .inl (fun _ => 0))), (q19, .inl (cA 5, 2052, .inr (.inl (fun _ => 0)))), (q20, .inl (cA 3, 513, .inl (fun _ => 0))), (q21, .inl (cA 3, 513, .inl (fun _ => 0))), (q22, .inl (cA 3, 513, .inl (fun _ => 0))), (q23, .inl (cA 4, 513, .inl (fun _ => 0)))] = wrl 24 cA (adM h0 q15 q16 q17 q18 q19 q20 q21 q22 q23 ad) (hpM u) := (ew q15 q16 q17 q18 q19 q20 q21 q22 q23).symm
  rw [e] at hP hD
  have hZ2 : Stx base (adM h0 q15 q16 q17 q18 q19 q20 q21 q22 q23 ad) L xs s s.heap := by
    obtain ⟨z1, z2, z3, z4, z5, z6, z7⟩ := hZ
    have e40 : adM h0 q15 q16 q17 q18 q19 q20 q21 q22 q23 ad 40 = ad 40 := rfl
    refine ⟨fun q hq => ?_, z2, z3, by rw [e40]; exact z4, by rw [e40]; exact z5, by rw [e40]; exact z6, z7⟩
    have h24 : 24 ≤ q.2.2.2 := (show ∀ q ∈ staL, 24 ≤ q.2.2.2 by decide) q hq
    have e2 : adM h0 q15 q16 q17 q18 q19 q20 q21 q22 q23 ad q.2.2.2 = ad q.2.2.2 := by
      unfold adM
      rw [if_neg (by omega), if_neg (by omega)]
    rw [e2]
    exact z1 q hq
  have hL2 : LH (adM h0 q15 q16 q17 q18 q19 q20 q21 q22 q23 ad) 24 1 [some (.inr (.inr 14))] ls := by
    refine ⟨hl.1, hl.2.1, rfl, fun k v hk => ?_⟩
    cases k with
    | zero =>
      have hk : some (Sum.inr (Sum.inr 14)) = some v := hk
      cases hk
      exact ⟨Or.inl (by decide), hl.2.2 _ List.mem_cons_self⟩
    | succ k => cases hk
  refine lv_aload_n hx hb dc5_79 rfl (lv_at hl 0 rfl) ?_
  refine s_callV (m' := 68) (own := 5) (idx := 40) (n := 1) (d := 11) (cc := bc5) (nL := 1) (st := [.inr (.inr 14)]) (ls := [some (.inr (.inr 14))]) (h := hpM u) (X := fun st ls h => wpI (wpM 11) (fun _ _ _ _ => False) (fun _ h' => gI (scrH L xs) h' 0) 0 83 [(.return_, 1, 0, 0, 0)] st ls h) (jump := fun _ _ _ _ => False) (Q := fun _ h' => gI (scrH L xs) h' 0) hx hb hml htw hown hK hZ2 ⟨Nat.le_of_ble_eq_true rfl, Nat.le_of_ble_eq_true rfl⟩ ⟨Nat.le_of_ble_eq_true rfl, Nat.le_of_ble_eq_true rfl⟩ (simM (Or.inr rfl) 11) (by decide) (by decide) (by decide) (Or.inl (atW_mem (i := 488) (by decide +kernel))) dc5_80 (fun st ls h hw => sim_blk (Q := fun _ h' => gI (scrH L xs) h' 0) (rk := 0) (own := 5) (nL := 1) (jump := fun _ _ _ _ => False) (d := 11) hx hb hml htw hown hK hZ2 (Or.inr rfl) ⟨Nat.le_of_ble_eq_true rfl, Nat.le_of_ble_eq_true rfl⟩ ⟨Nat.le_of_ble_eq_true rfl, Nat.le_of_ble_eq_true rfl⟩ (simM (Or.inr rfl) 11) (fun _ _ _ _ _ _ _ hrk => False.elim hrk) (fun pc lsC H locs h hd hrk hq hH => ?_) (fun _ _ _ _ z => z.elim) [(.return_, 1, 0, 0, 0)] 83 st ls h okM hw) (ini_ref (d := 0) (pc := 80) (hpM_cl hu)) ls H locs (fun v hv => by cases List.mem_singleton.mp hv; exact Or.inl (by decide)) hL2 ⟨hP, hD, hS, hpM_R hus⟩
  exact W.vret hx hb hr (fun t ht hW => ⟨⟨(adM h0 q15 q16 q17 q18 q19 q20 q21 q22 q23 ad, h), rfl, ⟨⟨rfl, fun o ho => if_pos ho, fun o ho => by
    show adM h0 q15 q16 q17 q18 q19 q20 q21 q22 q23 ad o = ad o
    unfold adM
    rw [if_neg (by omega), if_neg (by omega)]⟩, hq⟩, by rw [ht]; exact hH.1, hH.2.1, hH.2.2.2⟩, hH.2.2.1.F ht⟩) hH.2.2.1.2.2 hd
