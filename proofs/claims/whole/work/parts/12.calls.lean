/-! Calls, and the whole simulation. -/
def PostB (D : va_G) (cA : Nat → ClassId) (ad : Nat → Nat) (base lim L : Nat) (xs : Nat → Int32) (u : Hp) (t : State) : Prop := va_P D cls (wrl lim cA ad u) t.heap ∧ va_D (fun q : Nat => base ≤ q) (wrl lim cA ad u) ∧ scrR L xs u
def QcM (D : va_G) (cA : Nat → ClassId) (ad : Nat → Nat) (base lim L : Nat) (xs : Nat → Int32) (rk : Nat) (Q : Option AV → Hp → Prop) : Array Value → State → Outcome → State → Prop := match rk with
  | 0 => va_Qv (fun u : Hp => Q none u) (PostB D cA ad base lim L xs) (fun q : Nat => base ≤ q)
  | _ + 1 => va_Qi (fun r (u : Hp) => ∃ x, r = Int32.ofInt x ∧ Q (some (.inl x)) u) (PostB D cA ad base lim L xs) (fun q : Nat => base ≤ q)
def PreW (D : va_G) (cA : Nat → ClassId) (ad : Nat → Nat) (base lim L : Nat) (xs : Nat → Int32) (h : Hp) (U : State) : Prop := va_P D cls (wrl lim cA ad h) U.heap ∧ va_D (fun q : Nat => base ≤ q) (wrl lim cA ad h) ∧ va_K D cls (tyL cA) U ∧ Stx base ad L xs U U.heap ∧ scrR L xs h
def rmd (d : Nat) : Room := { frames := d, cells := 0, slots := 0, locals := 42 * d }
def mws (m : Nat) : List Cond := Cond.code (my m) (mby m) (mml m) (mret m) :: WS
def SimM (D : va_G) (cA : Nat → ClassId) (ad : Nat → Nat) (base lim L : Nat) (xs : Nat → Int32) (l : Launch) (d : Nat) : Prop :=
  ∀ (m : Nat) (as : List AV) (h : Hp) (Q : Option AV → Hp → Prop), m < nM → as.length = mna m → (∀ v ∈ as, vok lim v) → (∀ v ∈ as, isL (some v) = false) → wpM d m as h Q →
    Met l (my m) (mws m) (rmd d) (va_Pc (as.map (cv ad)) (PreW D cA ad base lim L xs h)) (QcM D cA ad base lim L xs (mrk m) Q) 0 0 (fun q : Nat => base ≤ q)
theorem catw_len : ∀ {l : List AV}, l.length ≤ catw l
  | [] => Nat.le_refl _
  | .inl _ :: l => by have := catw_len (l := l); simp only [List.length_cons, catw]; omega
  | .inr (.inl _) :: l => by have := catw_len (l := l); simp only [List.length_cons, catw]; omega
  | .inr (.inr _) :: l => by have := catw_len (l := l); simp only [List.length_cons, catw]; omega
theorem catw_no : ∀ {l : List AV}, catw l ≤ l.length → ∀ v ∈ l, isL (some v) = false
  | [], _, v, hv => by cases hv
  | .inl x :: l, h, v, hv => by
    simp only [List.length_cons, catw] at h
    rcases List.mem_cons.mp hv with rfl | hv
    · rfl
    · exact catw_no (by omega) v hv
  | .inr (.inl x) :: l, h, v, hv => by
    have := catw_len (l := l)
    simp only [List.length_cons, catw] at h
    omega
  | .inr (.inr x) :: l, h, v, hv => by
    simp only [List.length_cons, catw] at h
    rcases List.mem_cons.mp hv with rfl | hv
    · rfl
    · exact catw_no (by omega) v hv
theorem catw_cat {ad : Nat → Nat} : ∀ {l : List AV}, ((l.map (cv ad)).map fun v => v.category).sum = catw l
  | [] => rfl
  | .inl x :: l => by have := catw_cat (ad := ad) (l := l); simp only [List.map_cons, List.sum_cons, catw, this]; rfl
  | .inr (.inl x) :: l => by have := catw_cat (ad := ad) (l := l); simp only [List.map_cons, List.sum_cons, catw, this]; rfl
  | .inr (.inr x) :: l => by have := catw_cat (ad := ad) (l := l); simp only [List.map_cons, List.sum_cons, catw, this]; rfl
section CALL
variable {D : va_G} {cA : Nat → ClassId} {ad : Nat → Nat} {base lim nL L : Nat} {xs : Nat → Int32} {p : Program} {l : Launch} {e : Env} {R : Room} {s : State} {m : MethodId} {args : Array Value} {below : List Frame} {meth : Method} {c : Code} {cells slots : Nat} {Qw : State → Prop}
variable {cc : ByteArray} {pc len own idx d n : Nat} {st : List AV} {ls : AL} {h : Hp} {jump : Nat → List AV → AL → Hp → Prop} {Q : Option AV → Hp → Prop} {X : List AV → AL → Hp → Prop}
theorem preW_at {H : Heap} {locs : List Loc} (hK : va_K D cls (tyL cA) s) (hZ : Stx base ad L xs s s.heap) (hH : WH D cA ad base lim L xs s h H locs) {U : State} (hU : U.heap = H) (hW : s.WarmedH U.vm) : PreW D cA ad base lim L xs h U := by
  refine ⟨by rw [hU]; exact hH.1, hH.2.1, va_K.moved hW.alike hK, ?_, hH.2.2.2⟩
  rw [hU]
  exact hZ.move hW hH.2.2.1.1 (fun a h1 h2 => hH.2.2.1.2.1 a h1 h2)
theorem good_S {m' : Nat} (hm : m' < nM) (hlk : mthW own idx m' ∈ WS) (hst : mst m' = true) : GoodIn WS (va_wsS (cn own) idx (my m') (mws m')) := by
  intro w hw
  have h1 : w ∈ WS := by
    unfold va_wsS mws at hw
    simp only [List.cons_append, List.nil_append, List.mem_cons] at hw
    rcases hw with rfl | rfl | rfl | rfl | hw
    · exact hlk
    · exact f_stw m' hm hst
    · exact f_ini m' hm
    · exact f_code m' hm
    · exact hw
  exact ⟨h1, Or.inl (f_good w h1)⟩
theorem good_V {m' : Nat} (hm : m' < nM) (hlk : mthW own idx m' ∈ WS) (hst : mst m' = false) : GoodIn WS (wsV (cn own) idx (my m').cls (my m') (mws m')) := by
  intro w hw
  have h1 : w ∈ WS := by
    unfold wsV mws at hw
    simp only [List.cons_append, List.nil_append, List.mem_cons] at hw
    rcases hw with rfl | rfl | rfl | rfl | rfl | hw
    · exact hlk
    · exact f_inw m' hm hst
    · exact f_sel m' hm hst
    · exact f_ini m' hm
    · exact f_code m' hm
    · exact hw
  exact ⟨h1, Or.inl (f_good w h1)⟩
theorem good_M {m' : Nat} (hm : m' < nM) : GoodIn WS (mws m') := by
  intro w hw
  have h1 : w ∈ WS := by
    unfold mws at hw
    rcases List.mem_cons.mp hw with rfl | hw
    · exact f_code m' hm
    · exact hw
  exact ⟨h1, Or.inl (f_good w h1)⟩
theorem s_run {m' : Nat} {Qa : Option AV → Hp → Prop} {rest : List AV} {lsC : Array Slot} {H : Heap} {locs : List Loc} {st0 : List Value} {a : Array Value} (hH : WH D cA ad base lim L xs s h H locs) (hl : LH ad lim nL ls lsC) (hv : ∀ v ∈ rest, vok lim v)
    (hr : va_Run p l e R s m args below meth c H locs cells slots 0 0 (F0 m pc lsC st0) (rest.map (cv ad)) (QcM D cA ad base lim L xs (mrk m') Qa a) (fun q : Nat => base ≤ q))
    (hX : ∀ st ls h, X st ls h → Sim D cA ad base lim nL L xs p l e R s m args below meth c cells slots Qw (pc + 3) st ls h) (hq : ∀ r u, Qa r u → X (r.toList ++ rest) ls u) : W p l e R s m args below meth c H locs cells slots Qw (F0 m pc lsC st0) := by
  cases hk : mrk m' with
  | zero =>
    rw [hk] at hr
    refine va_callv (a := a) hr hH.2.2.1 (fun q _ z => z) (fun q z => z) (fun u t H1 locs1 ht hvm hpost hB hsz hkk hS1 => ?_)
    obtain ⟨hP1, hD1, hs1⟩ := hB
    rw [ht] at hP1
    exact hX _ _ _ (hq none u hpost) lsC H1 locs1 hv hl ⟨hP1, hD1, hS1, hs1⟩
  | succ k =>
    rw [hk] at hr
    refine va_calli (a := a) hr hH.2.2.1 (fun q _ z => z) (fun q z => z) (fun r u t H1 locs1 ht hvm hpost hB hsz hkk hS1 => ?_)
    obtain ⟨hP1, hD1, hs1⟩ := hB
    obtain ⟨x, rfl, hpost⟩ := hpost
    rw [ht] at hP1
    exact hX _ _ _ (hq (some (.inl x)) u hpost) lsC H1 locs1 (vk_i hv) hl ⟨hP1, hD1, hS1, hs1⟩
theorem s_callS {m' : Nat} (hexec : p.tables.exec = Jvm.exec) (hb : c.code = cc) (hml : c.maxLocals = nL) (hts : ∀ w ∈ WS, w.before args s = true) (hown : s.vm.findClass (cn own) = some m.cls) (hK : va_K D cls (tyL cA) s) (hZ : Stx base ad L xs s s.heap) (hR : d + 1 ≤ R.frames ∧ 42 * d + 42 ≤ R.locals) (hcs : cells ≤ R.cells ∧ slots ≤ R.slots)
    (hM : SimM D cA ad base lim L xs l d) (hm : m' < nM) (hn : n = mna m') (hst : mst m' = true) (hlk : mthW own idx m' ∈ WS ∨ (own, idx, m') ∈ nestM) (hd : decode cc pc = .ok (.invokestatic idx, 3))
    (hX : ∀ st ls h, X st ls h → Sim D cA ad base lim nL L xs p l e R s m args below meth c cells slots Qw (pc + 3) st ls h) (hw : after (wpM d) jump Q pc ls h X (inv false (m' + 2) n st ls h)) : Sim D cA ad base lim nL L xs p l e R s m args below meth c cells slots Qw pc st ls h := by
  have hw : (catw (st.drop n) ≤ 8 ∧ catw (st.take n) = n ∧ (st.take n).length = n) ∧ wpM d m' (st.take n).reverse h (fun r h' => X (r.toList ++ st.drop n) ls h') := hw
  obtain ⟨⟨h8, hcn, hnl⟩, hw⟩ := hw
  intro lsC H locs hv hl hH
  have hva : ∀ v ∈ (st.take n).reverse, vok lim v := fun v hv1 => hv v (List.mem_of_mem_take (List.mem_reverse.mp hv1))
  have hvr : ∀ v ∈ st.drop n, vok lim v := fun v hv1 => hv v (List.mem_of_mem_drop hv1)
  have hno : ∀ v ∈ (st.take n).reverse, isL (some v) = false := fun v hv1 => catw_no (by omega) v (List.mem_reverse.mp hv1)
  have hMet := hM m' (st.take n).reverse h _ hm (by rw [List.length_reverse, hnl, hn]) hva hno hw
  obtain ⟨f1, f2, f3⟩ := f_desc m' hm
  have hml' := (f_len m' hm).2
  have hsk : (F0 m pc lsC (st.map (cv ad))).stack = ((st.take n).reverse.map (cv ad)).reverse ++ (st.drop n).map (cv ad) := by
    show st.map (cv ad) = _
    rw [← List.map_reverse, List.reverse_reverse, ← List.map_append, List.take_append_drop]
  have hlp : ((st.take n).reverse.map (cv ad)).length = npar m' := by rw [List.length_map, List.length_reverse, hnl, hn, (f_npar m' hm).1 hst]
  have hpre : PreS s H (va_Pc ((st.take n).reverse.map (cv ad)) (PreW D cA ad base lim L xs h)) ((st.take n).reverse.map (cv ad)) := ⟨fun _ _ _ _ q => q, fun U hU hW => ⟨rfl, preW_at hK hZ hH hU hW⟩⟩
  have h8' : 2 * (F0 m pc lsC (st.map (cv ad))).monitorRoom + (((st.drop n).map (cv ad)).map fun v => v.category).sum ≤ 8 := lv_room (by rw [catw_cat]; exact h8)
  refine s_run (m' := m') (a := ((st.take n).reverse.map (cv ad)).toArray) hH hl hvr ?_ hX (fun r u z => z)
  rcases hlk with hlk | hlk
  · exact va_runS (Ts := WS) (own := cn own) (n := npar m') ⟨hexec, hb, hml, hown, hts⟩ hMet (va_cwS (npar m') hts (good_S hm hlk hst) rfl rfl rfl ⟨f1, f2, f3⟩ ⟨by show d + 1 ≤ _; exact hR.1, by show 8 + (mml m' + 11) + 42 * d ≤ _; omega⟩) hpre rfl hlp hl.1 hsk h8' hd ⟨by omega, by omega⟩
  · exact va_runSN (Ts := WS) (own := cn own) (n := npar m') (host := hostN) ⟨hexec, hb, hml, hown, hts⟩ hMet ⟨va_cnB (npar m') hts (good_M hm) rfl rfl rfl (hZ.2.2.1 _ hlk) (hts _ (f_ini m' hm)) ⟨f1, f2, f3⟩ ⟨by show d + 1 ≤ _; exact hR.1, by show 8 + (mml m' + 11) + 42 * d ≤ _; omega⟩, hts _ (f_stw m' hm hst), trivial⟩ hpre rfl hlp hl.1 hsk h8' hd ⟨by omega, by omega⟩
theorem rcv_spec {m' : Nat} : ∀ {as : List AV}, rcv m' as = true → ∃ o as', as = .inr (.inr o) :: as' ∧ ocl o = mcl m' ∧ okd o = 1
  | [], h => by cases h
  | .inl _ :: _, h => by cases h
  | .inr (.inl _) :: _, h => by cases h
  | .inr (.inr o) :: as', h => ⟨o, as', rfl, by
      have h : ((ocl o == mcl m') && (okd o == 1)) = true := h
      simpa using h⟩
theorem s_callV {m' : Nat} (hexec : p.tables.exec = Jvm.exec) (hb : c.code = cc) (hml : c.maxLocals = nL) (hts : ∀ w ∈ WS, w.before args s = true) (hown : s.vm.findClass (cn own) = some m.cls) (hK : va_K D cls (tyL cA) s) (hZ : Stx base ad L xs s s.heap) (hR : d + 1 ≤ R.frames ∧ 42 * d + 42 ≤ R.locals) (hcs : cells ≤ R.cells ∧ slots ≤ R.slots)
    (hM : SimM D cA ad base lim L xs l d) (hm : m' < nM) (hn : n = mna m') (hst : mst m' = false) (hlk : mthW own idx m' ∈ WS ∨ (own, idx, m') ∈ nestM) (hd : decode cc pc = .ok (.invokevirtual idx, 3))
    (hX : ∀ st ls h, X st ls h → Sim D cA ad base lim nL L xs p l e R s m args below meth c cells slots Qw (pc + 3) st ls h) (hw : after (wpM d) jump Q pc ls h X (inv true (m' + 2) n st ls h)) : Sim D cA ad base lim nL L xs p l e R s m args below meth c cells slots Qw pc st ls h := by
  unfold inv at hw
  cases hrc : rcv m' (st.take n).reverse with
  | false =>
    simp only [hrc, Bool.not_true, Bool.or_false] at hw
    exact (show False from hw.1).elim
  | true =>
    simp only [hrc, Bool.or_true] at hw
    have hw : (catw (st.drop n) ≤ 8 ∧ catw (st.take n) = n ∧ (st.take n).length = n) ∧ wpM d m' (st.take n).reverse h (fun r h' => X (r.toList ++ st.drop n) ls h') := hw
    obtain ⟨⟨h8, hcn, hnl⟩, hw⟩ := hw
    intro lsC H locs hv hl hH
    have hva : ∀ v ∈ (st.take n).reverse, vok lim v := fun v hv1 => hv v (List.mem_of_mem_take (List.mem_reverse.mp hv1))
    have hvr : ∀ v ∈ st.drop n, vok lim v := fun v hv1 => hv v (List.mem_of_mem_drop hv1)
    have hno : ∀ v ∈ (st.take n).reverse, isL (some v) = false := fun v hv1 => catw_no (by omega) v (List.mem_reverse.mp hv1)
    have hMet := hM m' (st.take n).reverse h _ hm (by rw [List.length_reverse, hnl, hn]) hva hno hw
    obtain ⟨o, as', has, hoc, hok⟩ := rcv_spec hrc
    have hlr : as'.length + 1 = n := by
      have h9 := congrArg List.length has
      rw [List.length_reverse, List.length_cons] at h9
      omega
    have hsk : (F0 m pc lsC (st.map (cv ad))).stack = (as'.map (cv ad)).reverse ++ .ref (ad o) :: (st.drop n).map (cv ad) := by
      show st.map (cv ad) = _
      have e1 : st = (as'.reverse ++ [.inr (.inr o)]) ++ st.drop n := by
        have e2 : st.take n = as'.reverse ++ [.inr (.inr o)] := by rw [← List.reverse_reverse (st.take n), has, List.reverse_cons]
        rw [← e2, List.take_append_drop]
      rw [← List.map_reverse]
      conv => lhs; rw [e1]
      simp only [List.map_append, List.map_cons, List.map_nil, List.append_assoc, List.cons_append, List.nil_append]
      rfl
    have ho : o < lim := vlt (hva _ (by rw [has]; exact List.mem_cons_self)) (by omega) (by omega) (by omega)
    rw [has] at hMet hno
    obtain ⟨f1, f2, f3⟩ := f_desc m' hm
    have hml' := (f_len m' hm).2
    have hlp : (as'.map (cv ad)).length = npar m' := by
      rw [List.length_map]
      have := (f_npar m' hm).2 hst
      omega
    have hcl : (my m').cls = cn (mcl m') := f_mcl m' hm
    have hpre : PreV s H (my m').cls (ad o) (va_Pc ((.inr (.inr o) :: as' : List AV).map (cv ad)) (PreW D cA ad base lim L xs h)) (as'.map (cv ad)) := by
      refine ⟨fun _ _ _ _ q => q, ?_, fun U hU hW => ⟨rfl, preW_at hK hZ hH hU hW⟩⟩
      have := va_recv hK hH.1 (f_cls (ocl o) (f_ocl o hok)) (by rw [wrl_get ho, wcell_o hok])
      rw [hcl, ← hoc]
      exact this
    have h8' : 2 * (F0 m pc lsC (st.map (cv ad))).monitorRoom + (((st.drop n).map (cv ad)).map fun v => v.category).sum ≤ 8 := lv_room (by rw [catw_cat]; exact h8)
    refine s_run (m' := m') (a := (Value.ref (ad o) :: as'.map (cv ad)).toArray) hH hl hvr ?_ hX (fun r u z => z)
    rcases hlk with hlk | hlk
    · exact va_runV (Ts := WS) (own := cn own) (n := npar m') ⟨hexec, hb, hml, hown, hts⟩ hMet (cwV (npar m') hts (good_V hm hlk hst) rfl rfl rfl ⟨rfl, f1, f2, f3⟩ ⟨by show d + 1 ≤ _; exact hR.1, by show 8 + (mml m' + 11) + 42 * d ≤ _; omega⟩) hpre rfl hlp hl.1 hsk h8' hd ⟨by omega, by omega⟩
    · exact va_runVN (Ts := WS) (own := cn own) (n := npar m') (host := hostN) (C := (my m').cls) ⟨hexec, hb, hml, hown, hts⟩ hMet ⟨va_cnB (npar m') hts (good_M hm) rfl rfl rfl (hZ.2.2.1 _ hlk) (hts _ (f_ini m' hm)) ⟨f1, f2, f3⟩ ⟨by show d + 1 ≤ _; exact hR.1, by show 8 + (mml m' + 11) + 42 * d ≤ _; omega⟩, hts _ (f_inw m' hm hst), hts _ (f_sel m' hm hst)⟩ hpre rfl hlp hl.1 hsk h8' hd ⟨by omega, by omega⟩
end CALL
