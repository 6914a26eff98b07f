/-! The whole simulation. -/
theorem len_of {k len : Nat} (h : k = 0 ∨ len = k) (hk : k ≠ 0) : len = k := h.resolve_left hk
theorem okBlk_cons {own nL : Nat} {cc : ByteArray} {pc : Nat} {q : CE} {is : List CE} (h : okBlk own nL cc pc (q :: is) = true) : decode cc pc = .ok (q.1, q.2.1) ∧ (ilen q.1 = 0 ∨ q.2.1 = ilen q.1) ∧ okA own nL pc q = true ∧ okBlk own nL cc (pc + q.2.1) is = true := by
  have h : (okE own nL cc pc q && okBlk own nL cc (pc + q.2.1) is) = true := h
  rw [Bool.and_eq_true] at h
  obtain ⟨h1, h2⟩ := h
  unfold okE at h1
  rw [Bool.and_eq_true, Bool.and_eq_true] at h1
  obtain ⟨h3, h4, h5⟩ := h1
  refine ⟨?_, by simpa using h4, h5, h2⟩
  cases hd : decode cc pc with
  | error x => rw [hd] at h3; cases h3
  | ok x =>
    obtain ⟨i, n⟩ := x
    rw [hd] at h3
    have h3 : (decide (i = q.1) && (n == q.2.1)) = true := h3
    simp only [Bool.and_eq_true, decide_eq_true_eq, beq_iff_eq] at h3
    rw [h3.1, h3.2]
section SIM
variable {D : va_G} {cA : Nat → ClassId} {ad : Nat → Nat} {base lim nL L : Nat} {xs : Nat → Int32} {p : Program} {l : Launch} {e : Env} {R : Room} {s : State} {m : MethodId} {args : Array Value} {below : List Frame} {meth : Method} {c : Code} {cells slots : Nat} {Qw : State → Prop}
variable {cc : ByteArray} {own d rk : Nat} {jump : Nat → List AV → AL → Hp → Prop} {Q : Option AV → Hp → Prop}
theorem s_abs {pc idx n : Nat} {st : List AV} {ls : AL} {h : Hp} {X : List AV → AL → Hp → Prop} (hexec : p.tables.exec = Jvm.exec) (hb : c.code = cc) (hml : c.maxLocals = nL) (hts : ∀ w ∈ WS, w.before args s = true) (hown : s.vm.findClass (cn own) = some m.cls) (hR : d + 1 ≤ R.frames ∧ 42 * d + 42 ≤ R.locals) (hcs : cells ≤ R.cells ∧ slots ≤ R.slots)
    (h1 : Cond.methodLink (cn own) idx Lib.Math.abs.name ∈ WS) (h2 : Cond.static Lib.Math.abs.name ∈ WS) (h3 : Cond.initialized "java/lang/Math" ∈ WS) (h4 : Cond.code Lib.Math.abs.name Lib.Math.abs.code 1 (some .int) ∈ WS) (hd : decode cc pc = .ok (.invokestatic idx, 3))
    (hX : ∀ st ls h, X st ls h → Sim D cA ad base lim nL L xs p l e R s m args below meth c cells slots Qw (pc + 3) st ls h) (hw : after (wpM d) jump Q pc ls h X (inv false 0 n st ls h)) : Sim D cA ad base lim nL L xs p l e R s m args below meth c cells slots Qw pc st ls h := by
  rcases st with _ | ⟨x | x, st⟩
  case cons.inl =>
    have hw : (inR x ∧ catw st ≤ 8) ∧ X (.inl (if 0 ≤ x then x else 0 - x) :: st) ls h := hw
    obtain ⟨⟨hx, h8⟩, hw⟩ := hw
    intro lsC H locs hv hl hH
    have k : W p l e R s m args below meth c H locs cells slots Qw (F0 m (pc + 3) lsC (.int (Int32.ofInt (if 0 ≤ x then x else 0 - x)) :: st.map (cv ad))) := hX _ _ _ hw lsC H locs (vk_i (vk_t hv)) hl hH
    refine va_mabs hexec hb (hml.trans hl.1.symm) hown (hts _ h1) (hts _ h2) (hts _ h3) (hts _ h4) (by omega) (by rw [catw_cat]; omega) hcs.1 hcs.2 hd ?_
    by_cases h0 : 0 ≤ x
    · rw [if_pos h0] at k
      rw [if_pos (by rw [oi_0, oi_le inR0 hx]; exact h0)]
      exact k
    · rw [if_neg h0] at k
      rw [if_neg (by rw [oi_0, oi_le inR0 hx]; exact h0), oi_0, ← Int32.ofInt_sub]
      exact k
  all_goals exact (show False from hw.1).elim
theorem s_max {pc idx n : Nat} {st : List AV} {ls : AL} {h : Hp} {X : List AV → AL → Hp → Prop} (hexec : p.tables.exec = Jvm.exec) (hb : c.code = cc) (hml : c.maxLocals = nL) (hts : ∀ w ∈ WS, w.before args s = true) (hown : s.vm.findClass (cn own) = some m.cls) (hR : d + 1 ≤ R.frames ∧ 42 * d + 42 ≤ R.locals) (hcs : cells ≤ R.cells ∧ slots ≤ R.slots)
    (h1 : Cond.methodLink (cn own) idx Lib.Math.max.name ∈ WS) (h2 : Cond.static Lib.Math.max.name ∈ WS) (h3 : Cond.initialized "java/lang/Math" ∈ WS) (h4 : Cond.code Lib.Math.max.name Lib.Math.max.code 2 (some .int) ∈ WS) (hd : decode cc pc = .ok (.invokestatic idx, 3))
    (hX : ∀ st ls h, X st ls h → Sim D cA ad base lim nL L xs p l e R s m args below meth c cells slots Qw (pc + 3) st ls h) (hw : after (wpM d) jump Q pc ls h X (inv false 1 n st ls h)) : Sim D cA ad base lim nL L xs p l e R s m args below meth c cells slots Qw pc st ls h := by
  rcases st with _ | ⟨y | y, _ | ⟨x | x, st⟩⟩
  case cons.inl.cons.inl =>
    have hw : (inR x ∧ inR y ∧ catw st ≤ 8) ∧ X (.inl (if x < y then y else x) :: st) ls h := hw
    obtain ⟨⟨hx, hy, h8⟩, hw⟩ := hw
    intro lsC H locs hv hl hH
    have k : W p l e R s m args below meth c H locs cells slots Qw (F0 m (pc + 3) lsC (.int (Int32.ofInt (if x < y then y else x)) :: st.map (cv ad))) := hX _ _ _ hw lsC H locs (vk_i (vk_t (vk_t hv))) hl hH
    refine va_mmax hexec hb (hml.trans hl.1.symm) hown (hts _ h1) (hts _ h2) (hts _ h3) (hts _ h4) (by omega) (by rw [catw_cat]; omega) hcs.1 hcs.2 hd ?_
    by_cases h0 : x < y
    · rw [if_pos h0] at k
      rw [if_pos ((oi_lt hx hy).mpr h0)]
      exact k
    · rw [if_neg h0] at k
      rw [if_neg (fun z => h0 ((oi_lt hx hy).mp z))]
      exact k
  all_goals exact (show False from hw.1).elim
set_option maxHeartbeats 4000000 in
set_option maxRecDepth 100000 in
theorem sim_blk (hexec : p.tables.exec = Jvm.exec) (hb : c.code = cc) (hml : c.maxLocals = nL) (hts : ∀ w ∈ WS, w.before args s = true) (hown : s.vm.findClass (cn own) = some m.cls) (hK : va_K D cls (tyL cA) s) (hZ : Stx base ad L xs s s.heap) (hL : lim = 14 ∨ lim = 24) (hR : d + 1 ≤ R.frames ∧ 42 * d + 42 ≤ R.locals) (hcs : cells ≤ R.cells ∧ slots ≤ R.slots) (hM : SimM D cA ad base lim L xs l d)
    (hretI : ∀ (pc : Nat) (lsC : Array Slot) (H : Heap) (locs : List Loc) (h : Hp) (v : Int), decode cc pc = .ok (.ireturn, 1) → rkP rk v → Q (some (.inl v)) h → WH D cA ad base lim L xs s h H locs → W p l e R s m args below meth c H locs cells slots Qw (F0 m pc lsC [.int (Int32.ofInt v)]))
    (hretV : ∀ (pc : Nat) (lsC : Array Slot) (H : Heap) (locs : List Loc) (h : Hp), decode cc pc = .ok (.return_, 1) → rk = 0 → Q none h → WH D cA ad base lim L xs s h H locs → W p l e R s m args below meth c H locs cells slots Qw (F0 m pc lsC []))
    (hJ : ∀ pc st ls h, jump pc st ls h → Sim D cA ad base lim nL L xs p l e R s m args below meth c cells slots Qw pc st ls h) :
    ∀ (is : List CE) (pc : Nat) (st : List AV) (ls : AL) (h : Hp), okBlk own nL cc pc is = true → wpI (wpM d) jump Q rk pc is st ls h → Sim D cA ad base lim nL L xs p l e R s m args below meth c cells slots Qw pc st ls h := by
  have hlim : lim ≤ 24 := by omega
  intro is
  induction is with
  | nil => exact fun pc st ls h _ hw => hJ _ _ _ _ hw
  | cons q is ih =>
    intro pc st ls h hok hw
    obtain ⟨hdec, hlen, hA, hok⟩ := okBlk_cons hok
    obtain ⟨i, len, a, b, z⟩ := q
    have hX := fun (st : List AV) (ls : AL) (h : Hp) (y : wpI (wpM d) jump Q rk (pc + len) is st ls h) => ih (pc + len) st ls h hok y
    have hw : after (wpM d) jump Q pc ls h (fun st' ls' h' => wpI (wpM d) jump Q rk (pc + len) is st' ls' h') (stepI rk (i, len, a, b, z) st ls h) := hw
    cases i with
    | iconst n =>
      obtain rfl : len = 1 := len_of (k := 1) hlen (by decide)
      exact s_push (v := .inl n) trivial (fun lsC H locs rest _ _ k => lv_iconst hexec hb hdec rfl k) hX hw
    | bipush n =>
      obtain rfl : len = 2 := len_of (k := 2) hlen (by decide)
      exact s_push (v := .inl n) trivial (fun lsC H locs rest _ g k => lv_bipush hexec hb hdec (oi_b8 g.1 g.2) k) hX hw
    | sipush n =>
      obtain rfl : len = 3 := len_of (k := 3) hlen (by decide)
      exact s_push (v := .inl n) trivial (fun lsC H locs rest _ g k => lv_sipush hexec hb hdec (oi_b16 g.1 g.2) k) hX hw
    | ldc k =>
      obtain rfl : len = 2 := len_of (k := 2) hlen (by decide)
      exact s_push (v := .inl z) trivial (fun lsC H locs rest _ _ k2 => lv_ldc hexec hb hown (hts _ (f_ci hA)) hdec k2) hX hw
    | ldc2_w k =>
      obtain rfl : len = 3 := len_of (k := 3) hlen (by decide)
      exact s_push (v := .inr (.inl (Int64.ofInt z))) trivial (fun lsC H locs rest _ _ k2 => lv_ldc2 hexec hb hown (hts _ (f_cl hA)) hdec k2) hX hw
    | lconst n =>
      obtain rfl : len = 1 := len_of (k := 1) hlen (by decide)
      exact s_push (v := .inr (.inl (Int64.ofNat n))) trivial (fun lsC H locs rest _ _ k => lv_lconst hexec hb hdec rfl k) hX hw
    | iload k =>
      obtain rfl : len = 2 := len_of (k := 2) hlen (by decide)
      exact s_ldi (fun x lsC H locs rest hh kk => lv_iload hexec hb hdec hh kk) hX hw
    | iload_n k =>
      obtain rfl : len = 1 := len_of (k := 1) hlen (by decide)
      exact s_ldi (fun x lsC H locs rest hh kk => lv_iload_n hexec hb hdec rfl hh kk) hX hw
    | lload k =>
      obtain rfl : len = 2 := len_of (k := 2) hlen (by decide)
      exact s_ldl (fun x lsC H locs rest hh kk => lv_lload hexec hb hdec hh kk) hX hw
    | lload_n k =>
      obtain rfl : len = 1 := len_of (k := 1) hlen (by decide)
      exact s_ldl (fun x lsC H locs rest hh kk => lv_lload_n hexec hb hdec rfl hh kk) hX hw
    | aload k =>
      obtain rfl : len = 2 := len_of (k := 2) hlen (by decide)
      exact s_lda (fun x lsC H locs rest hh kk => lv_aload hexec hb hdec hh kk) hX hw
    | aload_n k =>
      obtain rfl : len = 1 := len_of (k := 1) hlen (by decide)
      exact s_lda (fun x lsC H locs rest hh kk => lv_aload_n hexec hb hdec rfl hh kk) hX hw
    | istore k =>
      obtain rfl : len = 2 := len_of (k := 2) hlen (by decide)
      exact s_sti (of_decide_eq_true hA) (fun x lv lv' lsC H locs rest hh he kk => lv_istore hexec hb hdec hh (of_decide_eq_true hA) he kk) hX hw
    | istore_n k =>
      obtain rfl : len = 1 := len_of (k := 1) hlen (by decide)
      exact s_sti (of_decide_eq_true hA) (fun x lv lv' lsC H locs rest hh he kk => lv_istore_n hexec hb hdec rfl hh (of_decide_eq_true hA) he kk) hX hw
    | lstore k =>
      obtain rfl : len = 2 := len_of (k := 2) hlen (by decide)
      exact s_stl (of_decide_eq_true hA) (fun x lv lv' lsC H locs rest hh he kk => lv_lstore hexec hb hdec hh (of_decide_eq_true hA) he kk) hX hw
    | lstore_n k =>
      obtain rfl : len = 1 := len_of (k := 1) hlen (by decide)
      exact s_stl (of_decide_eq_true hA) (fun x lv lv' lsC H locs rest hh he kk => lv_lstore_n hexec hb hdec rfl hh (of_decide_eq_true hA) he kk) hX hw
    | astore k =>
      obtain rfl : len = 2 := len_of (k := 2) hlen (by decide)
      exact s_sta (of_decide_eq_true hA) (fun x lv lv' lsC H locs rest hh he kk => lv_astore hexec hb hdec hh (of_decide_eq_true hA) he kk) hX hw
    | astore_n k =>
      obtain rfl : len = 1 := len_of (k := 1) hlen (by decide)
      exact s_sta (of_decide_eq_true hA) (fun x lv lv' lsC H locs rest hh he kk => lv_astore_n hexec hb hdec rfl hh (of_decide_eq_true hA) he kk) hX hw
    | iinc k n =>
      obtain rfl : len = 3 := len_of (k := 3) hlen (by decide)
      exact s_inc (of_decide_eq_true hA) hexec hb hdec hX hw
    | iadd =>
      obtain rfl : len = 1 := len_of (k := 1) hlen (by decide)
      exact s_int2 (fun x y lsC H locs rest _ k => lv_iadd hexec hb hdec (by rw [← Int32.ofInt_add]; exact k)) hX hw
    | isub =>
      obtain rfl : len = 1 := len_of (k := 1) hlen (by decide)
      exact s_int2 (fun x y lsC H locs rest _ k => lv_isub hexec hb hdec (by rw [← Int32.ofInt_sub]; exact k)) hX hw
    | imul =>
      obtain rfl : len = 1 := len_of (k := 1) hlen (by decide)
      exact s_int2 (fun x y lsC H locs rest _ k => lv_imul hexec hb hdec (by rw [← Int32.ofInt_mul]; exact k)) hX hw
    | iand =>
      obtain rfl : len = 1 := len_of (k := 1) hlen (by decide)
      exact s_int2 (fun x y lsC H locs rest _ k => lv_iand hexec hb hdec (by rw [oi_and]; exact k)) hX hw
    | ior =>
      obtain rfl : len = 1 := len_of (k := 1) hlen (by decide)
      exact s_int2 (fun x y lsC H locs rest _ k => lv_ior hexec hb hdec (by rw [oi_or]; exact k)) hX hw
    | ixor =>
      obtain rfl : len = 1 := len_of (k := 1) hlen (by decide)
      exact s_int2 (fun x y lsC H locs rest _ k => lv_ixor hexec hb hdec (by rw [oi_xor]; exact k)) hX hw
    | idiv =>
      obtain rfl : len = 1 := len_of (k := 1) hlen (by decide)
      exact s_int2 (fun x y lsC H locs rest g k => lv_idiv hexec hb hdec (oi_ne0 g.2.1 g.2.2) (by rw [oi_div g.1.1 g.1.2 g.2.1 g.2.2]; exact k)) hX hw
    | irem =>
      obtain rfl : len = 1 := len_of (k := 1) hlen (by decide)
      exact s_int2 (fun x y lsC H locs rest g k => lv_irem hexec hb hdec (oi_ne0 g.2.1 g.2.2) (by rw [oi_rem g.1.1 g.1.2 g.2.1 g.2.2]; exact k)) hX hw
    | ishl =>
      obtain rfl : len = 1 := len_of (k := 1) hlen (by decide)
      exact s_int2 (fun x y lsC H locs rest g k => lv_ishl hexec hb hdec (by rw [oi_shl g.1 g.2]; exact k)) hX hw
    | ishr =>
      obtain rfl : len = 1 := len_of (k := 1) hlen (by decide)
      exact s_int2 (fun x y lsC H locs rest g k => lv_ishr hexec hb hdec (by rw [oi_shr g.1 g.2.1 g.2.2]; exact k)) hX hw
    | ineg =>
      obtain rfl : len = 1 := len_of (k := 1) hlen (by decide)
      exact s_int1 (f := fun x => .inl (-x)) (fun _ _ => trivial) (fun x lsC H locs rest g k => lv_ineg hexec hb hdec (by rw [← Int32.ofInt_neg]; exact k)) hX hw
    | i2l =>
      obtain rfl : len = 1 := len_of (k := 1) hlen (by decide)
      exact s_int1 (f := fun x => .inr (.inl (Int64.ofInt x))) (fun _ _ => trivial) (fun x lsC H locs rest g k => lv_i2l hexec hb hdec (oi_i2l g) k) hX hw
    | i2b =>
      obtain rfl : len = 1 := len_of (k := 1) hlen (by decide)
      exact s_int1 (f := fun x => .inl x) (fun _ _ => trivial) (fun x lsC H locs rest g k => lv_i2b hexec hb hdec (oi_i2b g.1 g.2) k) hX hw
    | i2s =>
      obtain rfl : len = 1 := len_of (k := 1) hlen (by decide)
      exact s_int1 (f := fun x => .inl x) (fun _ _ => trivial) (fun x lsC H locs rest g k => lv_i2s hexec hb hdec (oi_i2s g.1 g.2) k) hX hw
    | l2i =>
      obtain rfl : len = 1 := len_of (k := 1) hlen (by decide)
      rcases st with _ | ⟨x | x | x, st⟩
      case cons.inr.inl =>
        have hw : True ∧ wpI (wpM d) jump Q rk (pc + 1) is (.inl x.toInt32.toInt :: st) ls h := hw
        exact fun lsC H locs hv hl hH => lv_l2i hexec hb hdec (Int32.ofInt_toInt _).symm (hX _ _ _ hw.2 lsC H locs (vk_i (vk_t hv)) hl hH)
      all_goals exact (show False from hw.1).elim
    | land =>
      obtain rfl : len = 1 := len_of (k := 1) hlen (by decide)
      exact s_lng2 (f := fun x y => .inr (.inl (x &&& y))) (fun _ _ => trivial) (fun x y lsC H locs rest k => lv_land hexec hb hdec k) hX hw
    | lor =>
      obtain rfl : len = 1 := len_of (k := 1) hlen (by decide)
      exact s_lng2 (f := fun x y => .inr (.inl (x ||| y))) (fun _ _ => trivial) (fun x y lsC H locs rest k => lv_lor hexec hb hdec k) hX hw
    | lcmp =>
      obtain rfl : len = 1 := len_of (k := 1) hlen (by decide)
      exact s_lng2 (f := fun x y => .inl (lcm3 x y)) (fun _ _ => trivial) (fun x y lsC H locs rest k => W.lcmp hexec hb hdec (by rw [oi_cmp]; exact k)) hX hw
    | lshl =>
      obtain rfl : len = 1 := len_of (k := 1) hlen (by decide)
      exact s_lngs (fun x y lsC H locs rest k => lv_lshl hexec hb hdec rfl k) hX hw
    | lshr =>
      obtain rfl : len = 1 := len_of (k := 1) hlen (by decide)
      exact s_lngs (fun x y lsC H locs rest k => lv_lshr hexec hb hdec rfl k) hX hw
    | iaload =>
      obtain rfl : len = 1 := len_of (k := 1) hlen (by decide)
      exact s_aldi hexec hb hK hZ hdec hX hw
    | baload =>
      obtain rfl : len = 1 := len_of (k := 1) hlen (by decide)
      exact s_ald (by decide) (by decide) (by decide) (by decide) (by decide) (fun o i lsC H locs f rest hP ho hin k => va_bald hexec hb hK hP o 1 ho rfl hin hdec k) hX hw
    | saload =>
      obtain rfl : len = 1 := len_of (k := 1) hlen (by decide)
      exact s_ald (by decide) (by decide) (by decide) (by decide) (by decide) (fun o i lsC H locs f rest hP ho hin k => va_sald hexec hb hK hP o 2 ho rfl hin hdec k) hX hw
    | laload =>
      obtain rfl : len = 1 := len_of (k := 1) hlen (by decide)
      exact s_aldl hexec hb hK hdec hX hw
    | iastore =>
      obtain rfl : len = 1 := len_of (k := 1) hlen (by decide)
      exact s_ast (by decide) (by decide) (by decide) (by decide) (by decide) hlim (fun o i x lsC H locs f rest hP hD hS ho hin g k => va_iast hexec hb hK hP hD hS o 0 ho rfl hin hdec k) hX hw
    | bastore =>
      obtain rfl : len = 1 := len_of (k := 1) hlen (by decide)
      exact s_ast (by decide) (by decide) (by decide) (by decide) (by decide) hlim (fun o i x lsC H locs f rest hP hD hS ho hin g k => va_bast hexec hb hK hP hD hS o 1 ho rfl hin hdec (by rw [vp_nar_byte, oi_i2b g.1 g.2]; exact k)) hX hw
    | sastore =>
      obtain rfl : len = 1 := len_of (k := 1) hlen (by decide)
      exact s_ast (by decide) (by decide) (by decide) (by decide) (by decide) hlim (fun o i x lsC H locs f rest hP hD hS ho hin g k => va_sast hexec hb hK hP hD hS o 2 ho rfl hin hdec (by rw [vp_nar_short, oi_i2s g.1 g.2]; exact k)) hX hw
    | lastore =>
      obtain rfl : len = 1 := len_of (k := 1) hlen (by decide)
      exact s_astl hexec hb hK hdec hX hw
    | arraylength =>
      obtain rfl : len = 1 := len_of (k := 1) hlen (by decide)
      exact s_len hexec hb hK hZ hdec hX hw
    | dup =>
      obtain rfl : len = 1 := len_of (k := 1) hlen (by decide)
      exact s_dup hexec hb hdec hX hw
    | getfield k =>
      obtain rfl : len = 3 := len_of (k := 3) hlen (by decide)
      obtain ⟨h1, h2, h3⟩ := f_fl hA
      exact s_fget hexec hb hts hown hK hL h1 h2 h3 hdec hX hw
    | putfield k =>
      obtain rfl : len = 3 := len_of (k := 3) hlen (by decide)
      obtain ⟨h1, h2, h3, h4, h5⟩ := f_fp hA
      exact s_fput hexec hb hts hown hK hlim h1 h2 h3 h4 h5 hdec hX hw
    | getstatic k =>
      obtain rfl : len = 3 := len_of (k := 3) hlen (by decide)
      obtain ⟨h1, h2, h3⟩ := f_gs hA
      exact s_stat hexec hb hts hown hZ h1 h2 h3 hdec hX hw
    | invokestatic k =>
      obtain rfl : len = 3 := len_of (k := 3) hlen (by decide)
      rcases a with _ | _ | m'
      · obtain ⟨h1, h2, h3, h4⟩ := f_ab hA
        exact s_abs (n := b) hexec hb hml hts hown hR hcs h1 h2 h3 h4 hdec hX hw
      · obtain ⟨h1, h2, h3, h4⟩ := f_mx hA
        exact s_max (n := b) hexec hb hml hts hown hR hcs h1 h2 h3 h4 hdec hX hw
      · obtain ⟨h1, h2, h3, h4⟩ := f_is hA
        exact s_callS hexec hb hml hts hown hK hZ hR hcs hM h1 h2 h3 h4 hdec hX hw
    | invokevirtual k =>
      obtain rfl : len = 3 := len_of (k := 3) hlen (by decide)
      rcases a with _ | _ | m'
      · cases hA
      · cases hA
      · obtain ⟨h1, h2, h3, h4⟩ := f_iv hA
        exact s_callV hexec hb hml hts hown hK hZ hR hcs hM h1 h2 h3 h4 hdec hX hw
    | if_icmp cd off =>
      obtain rfl : len = 3 := len_of (k := 3) hlen (by decide)
      exact s_brI hexec hb hdec (of_decide_eq_true hA) hJ hX hw
    | ifCond cd off =>
      obtain rfl : len = 3 := len_of (k := 3) hlen (by decide)
      exact s_brZ hexec hb hdec (of_decide_eq_true hA) hJ hX hw
    | goto off =>
      obtain rfl : len = 3 := len_of (k := 3) hlen (by decide)
      exact s_goto hexec hb hdec (of_decide_eq_true hA) hJ hw
    | tableswitch df lo hi offs =>
      obtain ⟨h1, h2, h3⟩ := f_ts hA
      exact s_swt hexec hb hdec h1 h2 h3 hJ hw
    | ireturn =>
      obtain rfl : len = 1 := len_of (k := 1) hlen (by decide)
      rcases st with _ | ⟨v | v, _ | ⟨w, st⟩⟩
      case cons.inl.nil =>
        have hw : rkP rk v ∧ Q (some (.inl v)) h := hw
        exact fun lsC H locs hv hl hH => hretI pc lsC H locs h v hdec hw.1 hw.2 hH
      all_goals exact (show False from hw.1).elim
    | return_ =>
      obtain rfl : len = 1 := len_of (k := 1) hlen (by decide)
      rcases st with _ | ⟨v, st⟩
      · have hw : rk = 0 ∧ Q none h := hw
        exact fun lsC H locs hv hl hH => hretV pc lsC H locs h hdec hw.1 hw.2 hH
      · exact (show False from hw.1).elim
    | _ => exact (show False from hw.1).elim
end SIM
set_option maxHeartbeats 4000000 in
set_option maxRecDepth 100000 in
theorem simM {D : va_G} {cA : Nat → ClassId} {ad : Nat → Nat} {base lim L : Nat} {xs : Nat → Int32} {l : Launch} (hL : lim = 14 ∨ lim = 24) : ∀ d, SimM D cA ad base lim L xs l d := by
  intro d
  induction d with
  | zero => exact fun m as h Q _ _ _ _ hw => hw.elim
  | succ d ih =>
    intro m' as h Q hm hna hv hno hw
    refine Met.ofW (cc := mby m') (maxL := mml m') (ret := mret m') (f_plain m' hm) rfl ?_
    intro p e s m args below meth c s₁ B hml hP
    obtain ⟨rfl, hP, hD, hK, hZ, hsc⟩ := hP
    have hts := atoms_spec (ws := mws m') B.pre
    have hown : s.vm.findClass (cn (mcl m')) = some m.cls := by rw [← f_mcl m' hm]; exact findClass_of_methodNamed B.named
    have hlocks := B.notSynchronized
    have hr := B.returns
    have hre := f_ret m' hm
    rw [lg_entry_eq]
    have key := hw (Sim D cA ad base lim (mml m') L xs p l e (headSpec (mws m') (rmd (d + 1))).room s m (as.map (cv ad)).toArray below meth c 0 0 (MQ below (QcM D cA ad base lim L xs (mrk m') Q) (as.map (cv ad)).toArray s 0 0 (fun q : Nat => base ≤ q)))
      (fun pc st ls h hwi => sim_blk (Q := Q) (rk := mrk m') B.exec B.bytes hml (fun w hw => hts w (List.mem_cons_of_mem _ hw)) hown hK hZ hL ⟨Nat.le_refl _, Nat.le_of_eq rfl⟩ ⟨Nat.zero_le _, Nat.zero_le _⟩ ih
        (fun pc lsC H locs h v hd hrk hq hH => by
          cases hk : mrk m' with
          | zero => rw [hk] at hrk; exact hrk.elim
          | succ k =>
            rw [hk] at hrk hre
            have hre : mret m' = some (if k = 0 then .int else .boolean) := hre
            refine W.zret (ty := if k = 0 then .int else .boolean) B.exec B.bytes (hr.trans hre) ?_ (fun t ht hW => ⟨⟨Int32.ofInt v, h, rfl, ⟨v, rfl, hq⟩, by rw [ht]; exact hH.1, hH.2.1, hH.2.2.2⟩, hH.2.2.1.F ht⟩) hH.2.2.1.2.2 hd
            rcases k with _ | k
            · rfl
            · rw [if_neg (Nat.succ_ne_zero k)]
              rcases hrk with rfl | rfl <;> decide)
        (fun pc lsC H locs h hd hrk hq hH => by
          rw [hrk] at hre ⊢
          exact W.vret B.exec B.bytes (hr.trans hre) (fun t ht hW => ⟨⟨h, rfl, hq, by rw [ht]; exact hH.1, hH.2.1, hH.2.2.2⟩, hH.2.2.1.F ht⟩) hH.2.2.1.2.2 hd)
        (fun _ _ _ _ z => z) (mbk m' pc) pc st ls h (f_ok m' hm pc) hwi)
    exact key _ s.heap [] (fun v hv => by cases hv) (LH.entry hv hno (by rw [hna]; exact (f_len m' hm).1)) ⟨hP, hD, va_S.rf, hsc⟩
