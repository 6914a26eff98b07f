/-! Steps that read and write the heap, and calls. -/
theorem wcell_a {cA : Nat → ClassId} {ad : Nat → Nat} {h : Hp} {o k : Nat} (hk : okd o = k) (h1 : k ≠ 1) (h5 : k ≠ 5) : wcell cA ad h o = (ad o, .inl (cA k, oln o, .inl (fun j => Int32.ofInt (ga h o j)))) := by
  unfold wcell
  rw [hk]
  split
  · exact absurd rfl h1
  · exact absurd rfl h5
  · rfl
theorem wcell_l {cA : Nat → ClassId} {ad : Nat → Nat} {h : Hp} {o : Nat} (hk : okd o = 5) : wcell cA ad h o = (ad o, .inl (cA 5, oln o, .inr (.inl (fun j => gl h o j)))) := by
  unfold wcell
  rw [hk]
  rfl
def ofs (ad : Nat → Nat) (h : Hp) (o k : Nat) : Value := match fld o k with
  | 0 => Value.int (Int32.ofInt (ga h o k))
  | r + 1 => Value.ref (ad r)
theorem wcell_o {cA : Nat → ClassId} {ad : Nat → Nat} {h : Hp} {o : Nat} (hk : okd o = 1) : wcell cA ad h o = (ad o, .inr (ocl o, (List.range (nfl (ocl o))).map (ofs ad h o))) := by
  unfold wcell
  rw [hk]
  rfl
theorem upd_sa {h : Hp} {o : Nat} {i v : Int} (h0 : 0 ≤ i) : upd (fun j : Nat => Int32.ofInt (ga h o j)) i.toNat (Int32.ofInt v) = fun j : Nat => Int32.ofInt (ga (sa h o i v) o j) := by
  funext j
  rw [ga_sa]
  by_cases hj : j = i.toNat
  · subst hj
    rw [pk_us, if_pos (Int.toNat_of_nonneg h0)]
  · rw [pk_un hj, if_neg (by omega)]
theorem upd_sl {h : Hp} {o : Nat} {i : Int} {v : Int64} (h0 : 0 ≤ i) : vp_updL (fun j : Nat => gl h o j) i.toNat v = fun j : Nat => gl (sl h o i v) o j := by
  funext j
  rw [gl_sl]
  by_cases hj : j = i.toNat
  · subst hj
    rw [pk_uLs, if_pos (Int.toNat_of_nonneg h0)]
  · rw [pk_uLn hj, if_neg (by omega)]
theorem alen_a {h : Hp} {o : Nat} (hk : okd o ≠ 7) : alen h o = (oln o : Int) := by
  unfold alen
  rw [show (okd o == 7) = false from by simpa using hk]
theorem alen_s {h : Hp} {o : Nat} (hk : okd o = 7) : alen h o = ga h 41 0 := by
  unfold alen
  rw [hk]
  rfl
theorem vlt {lim o : Nat} (hv : vok lim (.inr (.inr o))) (h : okd o ≠ 6) (h7 : okd o ≠ 7) (h0 : okd o ≠ 0) : o < lim := by
  rcases hv with hv | hv
  · exact hv
  · exact absurd (f_okd o hv) (by simp [h, h7, h0])
section HEAP
variable {D : va_G} {cA : Nat → ClassId} {ad : Nat → Nat} {base lim nL L : Nat} {xs : Nat → Int32} {p : Program} {l : Launch} {e : Env} {R : Room} {s : State} {m : MethodId} {args : Array Value} {below : List Frame} {meth : Method} {c : Code} {cells slots : Nat} {Qw : State → Prop}
variable {cc : ByteArray} {pc len own idx : Nat} {st : List AV} {ls : AL} {h : Hp} {call : Nat → List AV → Hp → (Option AV → Hp → Prop) → Prop} {jump : Nat → List AV → AL → Hp → Prop} {Q : Option AV → Hp → Prop} {X : List AV → AL → Hp → Prop}
theorem s_aldi (hexec : p.tables.exec = Jvm.exec) (hb : c.code = cc) (hK : va_K D cls (tyL cA) s) (hZ : Stx base ad L xs s s.heap) (hd : decode cc pc = .ok (.iaload, 1))
    (hX : ∀ st ls h, X st ls h → Sim D cA ad base lim nL L xs p l e R s m args below meth c cells slots Qw (pc + 1) st ls h) (hw : after call jump Q pc ls h X (aldi st ls h)) : Sim D cA ad base lim nL L xs p l e R s m args below meth c cells slots Qw pc st ls h := by
  rcases st with _ | ⟨i | i, _ | ⟨o | o | o, st⟩⟩
  case cons.inl.cons.inr.inr =>
    unfold aldi at hw
    have hlen := f_oln o
    cases k2 : (okd o == 2) with
    | true =>
      simp only [k2] at hw
      have hw : (0 ≤ i ∧ i < alen h o) ∧ X (.inl (ga h o i) :: st) ls h := hw
      have hk : okd o = 2 := by simpa using k2
      obtain ⟨⟨h0, h1⟩, hw⟩ := hw
      rw [alen_a (by omega)] at h1
      intro lsC H locs hv hl hH
      have ho : o < lim := vlt (vk_h (vk_t hv)) (by omega) (by omega) (by omega)
      refine va_iald hexec hb hK hH.1 o 0 (cA := cA 2) (n := oln o) (f := fun j => Int32.ofInt (ga h o j)) (by rw [wrl_get ho, wcell_a hk (by decide) (by decide)]) rfl (oi_in h0 h1 hlen) hd ?_
      show W p l e R s m args below meth c H locs cells slots Qw (F0 m (pc + 1) lsC (.int (Int32.ofInt (ga h o (((Int32.ofInt i).toNatClampNeg : Nat) : Int))) :: st.map (cv ad)))
      rw [oi_cl h0 (by omega), Int.toNat_of_nonneg h0]
      exact hX _ _ _ hw lsC H locs (vk_i (vk_t (vk_t hv))) hl hH
    | false =>
      simp only [k2] at hw
      cases k6 : (okd o == 6) with
      | true =>
        simp only [k6] at hw
        have hw : (0 ≤ i ∧ i < alen h o) ∧ X (.inl (tbl o i) :: st) ls h := hw
        have hk : okd o = 6 := by simpa using k6
        obtain ⟨⟨h0, h1⟩, hw⟩ := hw
        rw [alen_a (by omega)] at h1
        intro lsC H locs hv hl hH
        obtain ⟨q, hq, rfl⟩ := f_sta o hk
        refine va_ti hexec hb (hZ.1 q hq).2 hH.2.2.1 (oi_in h0 h1 hlen) (v := .int (Int32.ofInt (tbl q.2.2.2 i))) ?_ hd (hX _ _ _ hw lsC H locs (vk_i (vk_t (vk_t hv))) hl hH)
        show Value.int (Int32.ofInt (tbl q.2.2.2 (((Int32.ofInt i).toNatClampNeg : Nat) : Int))) = _
        rw [oi_cl h0 (by omega), Int.toNat_of_nonneg h0]
      | false =>
        simp only [k6] at hw
        cases k7 : (okd o == 7) with
        | true =>
          simp only [k7] at hw
          have hw : (0 ≤ i ∧ i < alen h o) ∧ X (.inl (ga h o i) :: st) ls h := hw
          have hk : okd o = 7 := by simpa using k7
          obtain ⟨⟨h0, h1⟩, hw⟩ := hw
          rw [alen_s hk] at h1
          have ho := f_scr o hk
          subst ho
          intro lsC H locs hv hl hH
          have hL := hZ.2.2.2.2.2.2
          rw [hH.2.2.2.1] at h1
          refine va_sld hexec hb hZ.2.2.2.1 hZ.2.2.2.2.2.1 (by have := hZ.2.2.2.2.1; omega) hH.2.2.1 (oi_in h0 h1 (by omega)) hd ?_
          rw [oi_cl h0 (by omega), ← hH.2.2.2.2 i.toNat (by omega), Int.toNat_of_nonneg h0]
          exact hX _ _ _ hw lsC H locs (vk_i (vk_t (vk_t hv))) hl hH
        | false =>
          simp only [k7] at hw
          exact (show False from hw.1).elim
  all_goals exact (show False from hw.1).elim
theorem s_ald {k : Nat} (hk1 : k ≠ 1) (hk5 : k ≠ 5) (hk6 : k ≠ 6) (hk7 : k ≠ 7) (hk0 : k ≠ 0)
    (row : ∀ (o : Nat) (i : Int32) (lsC : Array Slot) (H : Heap) (locs : List Loc) (f : Nat → Int32) (rest : List Value), va_P D cls (wrl lim cA ad h) H → (wrl lim cA ad h)[o]? = some (ad o, .inl (cA k, oln o, .inl f)) → vp_in i (oln o) → W p l e R s m args below meth c H locs cells slots Qw (F0 m (pc + len) lsC (.int (f i.toNatClampNeg) :: rest)) → W p l e R s m args below meth c H locs cells slots Qw (F0 m pc lsC (.int i :: .ref (ad o) :: rest)))
    (hX : ∀ st ls h, X st ls h → Sim D cA ad base lim nL L xs p l e R s m args below meth c cells slots Qw (pc + len) st ls h) (hw : after call jump Q pc ls h X (ald k st ls h)) : Sim D cA ad base lim nL L xs p l e R s m args below meth c cells slots Qw pc st ls h := by
  rcases st with _ | ⟨i | i, _ | ⟨o | o | o, st⟩⟩
  case cons.inl.cons.inr.inr =>
    unfold ald at hw
    have hlen := f_oln o
    cases k2 : (okd o == k) with
    | true =>
      simp only [k2] at hw
      have hw : (0 ≤ i ∧ i < alen h o) ∧ X (.inl (ga h o i) :: st) ls h := hw
      have hk : okd o = k := by simpa using k2
      obtain ⟨⟨h0, h1⟩, hw⟩ := hw
      rw [alen_a (by omega)] at h1
      intro lsC H locs hv hl hH
      have ho : o < lim := vlt (vk_h (vk_t hv)) (by omega) (by omega) (by omega)
      refine row o (Int32.ofInt i) lsC H locs (fun j => Int32.ofInt (ga h o j)) _ hH.1 (by rw [wrl_get ho, wcell_a hk hk1 hk5]) (oi_in h0 h1 hlen) ?_
      show W p l e R s m args below meth c H locs cells slots Qw (F0 m (pc + len) lsC (.int (Int32.ofInt (ga h o (((Int32.ofInt i).toNatClampNeg : Nat) : Int))) :: st.map (cv ad)))
      rw [oi_cl h0 (by omega), Int.toNat_of_nonneg h0]
      exact hX _ _ _ hw lsC H locs (vk_i (vk_t (vk_t hv))) hl hH
    | false =>
      simp only [k2] at hw
      exact (show False from hw.1).elim
  all_goals exact (show False from hw.1).elim
theorem s_aldl (hexec : p.tables.exec = Jvm.exec) (hb : c.code = cc) (hK : va_K D cls (tyL cA) s) (hd : decode cc pc = .ok (.laload, 1))
    (hX : ∀ st ls h, X st ls h → Sim D cA ad base lim nL L xs p l e R s m args below meth c cells slots Qw (pc + 1) st ls h) (hw : after call jump Q pc ls h X (aldl st ls h)) : Sim D cA ad base lim nL L xs p l e R s m args below meth c cells slots Qw pc st ls h := by
  rcases st with _ | ⟨i | i, _ | ⟨o | o | o, st⟩⟩
  case cons.inl.cons.inr.inr =>
    unfold aldl at hw
    have hlen := f_oln o
    cases k2 : (okd o == 5) with
    | true =>
      simp only [k2] at hw
      have hw : (0 ≤ i ∧ i < alen h o) ∧ X (.inr (.inl (gl h o i)) :: st) ls h := hw
      have hk : okd o = 5 := by simpa using k2
      obtain ⟨⟨h0, h1⟩, hw⟩ := hw
      rw [alen_a (by omega)] at h1
      intro lsC H locs hv hl hH
      have ho : o < lim := vlt (vk_h (vk_t hv)) (by omega) (by omega) (by omega)
      refine va_lald hexec hb hK hH.1 o 3 (cA := cA 5) (n := oln o) (f := fun j => gl h o j) (by rw [wrl_get ho, wcell_l hk]) rfl (oi_in h0 h1 hlen) hd ?_
      show W p l e R s m args below meth c H locs cells slots Qw (F0 m (pc + 1) lsC (.long (gl h o (((Int32.ofInt i).toNatClampNeg : Nat) : Int)) :: st.map (cv ad)))
      rw [oi_cl h0 (by omega), Int.toNat_of_nonneg h0]
      exact hX _ _ _ hw lsC H locs (vk_l (vk_t (vk_t hv))) hl hH
    | false =>
      simp only [k2] at hw
      exact (show False from hw.1).elim
  all_goals exact (show False from hw.1).elim
theorem s_ast {k : Nat} {g : Int → Prop} (hk1 : k ≠ 1) (hk5 : k ≠ 5) (hk6 : k ≠ 6) (hk7 : k ≠ 7) (hk0 : k ≠ 0) (hlim : lim ≤ 24)
    (row : ∀ (o : Nat) (i : Int32) (x : Int) (lsC : Array Slot) (H : Heap) (locs : List Loc) (f : Nat → Int32) (rest : List Value), va_P D cls (wrl lim cA ad h) H → va_D (fun q : Nat => base ≤ q) (wrl lim cA ad h) → va_S (fun q : Nat => base ≤ q) s.heap H locs → (wrl lim cA ad h)[o]? = some (ad o, .inl (cA k, oln o, .inl f)) → vp_in i (oln o) → g x →
      (∀ (H1 : Heap) (locs1 : List Loc), va_P D cls ((wrl lim cA ad h).set o (ad o, .inl (cA k, oln o, .inl (upd f i.toNatClampNeg (Int32.ofInt x))))) H1 → va_D (fun q : Nat => base ≤ q) ((wrl lim cA ad h).set o (ad o, .inl (cA k, oln o, .inl (upd f i.toNatClampNeg (Int32.ofInt x))))) → va_S (fun q : Nat => base ≤ q) s.heap H1 locs1 → W p l e R s m args below meth c H1 locs1 cells slots Qw (F0 m (pc + len) lsC rest)) → W p l e R s m args below meth c H locs cells slots Qw (F0 m pc lsC (.int (Int32.ofInt x) :: .int i :: .ref (ad o) :: rest)))
    (hX : ∀ st ls h, X st ls h → Sim D cA ad base lim nL L xs p l e R s m args below meth c cells slots Qw (pc + len) st ls h) (hw : after call jump Q pc ls h X (ast k g st ls h)) : Sim D cA ad base lim nL L xs p l e R s m args below meth c cells slots Qw pc st ls h := by
  rcases st with _ | ⟨v | v, _ | ⟨i | i, _ | ⟨o | o | o, st⟩⟩⟩
  case cons.inl.cons.inl.cons.inr.inr =>
    unfold ast at hw
    have hlen := f_oln o
    cases k2 : (okd o == k) with
    | true =>
      simp only [k2] at hw
      have hw : ((0 ≤ i ∧ i < alen h o) ∧ g v) ∧ X st ls (sa h o i v) := hw
      have hk : okd o = k := by simpa using k2
      obtain ⟨⟨⟨h0, h1⟩, hg⟩, hw⟩ := hw
      rw [alen_a (by omega)] at h1
      intro lsC H locs hv hl hH
      have ho : o < lim := vlt (vk_h (vk_t (vk_t hv))) (by omega) (by omega) (by omega)
      refine row o (Int32.ofInt i) v lsC H locs (fun j => Int32.ofInt (ga h o j)) _ hH.1 hH.2.1 hH.2.2.1 (by rw [wrl_get ho, wcell_a hk hk1 hk5]) (oi_in h0 h1 hlen) hg (fun H1 locs1 hP1 hD1 hS1 => ?_)
      have e1 : (wrl lim cA ad h).set o (ad o, .inl (cA k, oln o, .inl (upd (fun j : Nat => Int32.ofInt (ga h o j)) (Int32.ofInt i).toNatClampNeg (Int32.ofInt v)))) = wrl lim cA ad (sa h o i v) :=
        wrl_set (by rw [wcell_a hk hk1 hk5, oi_cl h0 (by omega), upd_sa h0]) (fun p hp => wcell_sa hp)
      rw [e1] at hP1 hD1
      exact hX _ _ _ hw lsC H1 locs1 (vk_t (vk_t (vk_t hv))) hl ⟨hP1, hD1, hS1, hH.2.2.2.sa (by omega)⟩
    | false =>
      simp only [k2] at hw
      exact (show False from hw.1).elim
  all_goals exact (show False from hw.1).elim
theorem s_astl (hexec : p.tables.exec = Jvm.exec) (hb : c.code = cc) (hK : va_K D cls (tyL cA) s) (hd : decode cc pc = .ok (.lastore, 1))
    (hX : ∀ st ls h, X st ls h → Sim D cA ad base lim nL L xs p l e R s m args below meth c cells slots Qw (pc + 1) st ls h) (hw : after call jump Q pc ls h X (astl st ls h)) : Sim D cA ad base lim nL L xs p l e R s m args below meth c cells slots Qw pc st ls h := by
  rcases st with _ | ⟨v | v | v, _ | ⟨i | i, _ | ⟨o | o | o, st⟩⟩⟩
  case cons.inr.inl.cons.inl.cons.inr.inr =>
    unfold astl at hw
    have hlen := f_oln o
    cases k2 : (okd o == 5) with
    | true =>
      simp only [k2] at hw
      have hw : (0 ≤ i ∧ i < alen h o) ∧ X st ls (sl h o i v) := hw
      have hk : okd o = 5 := by simpa using k2
      obtain ⟨⟨h0, h1⟩, hw⟩ := hw
      rw [alen_a (by omega)] at h1
      intro lsC H locs hv hl hH
      have ho : o < lim := vlt (vk_h (vk_t (vk_t hv))) (by omega) (by omega) (by omega)
      refine va_last hexec hb hK hH.1 hH.2.1 hH.2.2.1 o 3 (cA := cA 5) (n := oln o) (f := fun j => gl h o j) (by rw [wrl_get ho, wcell_l hk]) rfl (oi_in h0 h1 hlen) hd (fun H1 locs1 hP1 hD1 hS1 => ?_)
      have e1 : (wrl lim cA ad h).set o (ad o, .inl (cA 5, oln o, .inr (.inl (vp_updL (fun j : Nat => gl h o j) (Int32.ofInt i).toNatClampNeg v)))) = wrl lim cA ad (sl h o i v) :=
        wrl_set (by rw [wcell_l hk, oi_cl h0 (by omega), upd_sl h0]) (fun p hp => wcell_sl hp)
      rw [e1] at hP1 hD1
      exact hX _ _ _ hw lsC H1 locs1 (vk_t (vk_t (vk_t hv))) hl ⟨hP1, hD1, hS1, hH.2.2.2.sl⟩
    | false =>
      simp only [k2] at hw
      exact (show False from hw.1).elim
  all_goals exact (show False from hw.1).elim
theorem s_len (hexec : p.tables.exec = Jvm.exec) (hb : c.code = cc) (hK : va_K D cls (tyL cA) s) (hZ : Stx base ad L xs s s.heap) (hd : decode cc pc = .ok (.arraylength, 1))
    (hX : ∀ st ls h, X st ls h → Sim D cA ad base lim nL L xs p l e R s m args below meth c cells slots Qw (pc + 1) st ls h) (hw : after call jump Q pc ls h X (len1 st ls h)) : Sim D cA ad base lim nL L xs p l e R s m args below meth c cells slots Qw pc st ls h := by
  rcases st with _ | ⟨o | o | o, st⟩
  case cons.inr.inr =>
    unfold len1 at hw
    cases k2 : decide (2 ≤ okd o) with
    | true =>
      simp only [k2] at hw
      have hw : True ∧ X (.inl (alen h o) :: st) ls h := hw
      have hk : 2 ≤ okd o := by simpa using k2
      intro lsC H locs hv hl hH
      have kk := hX _ _ _ hw.2 lsC H locs (vk_i (vk_t hv)) hl hH
      by_cases h7 : okd o = 7
      · have ho := f_scr o h7
        subst ho
        refine va_slen hexec hb hZ.2.2.2.1 hZ.2.2.2.2.2.1 (by have := hZ.2.2.2.2.1; omega) hH.2.2.1 hd ?_
        have kk : W p l e R s m args below meth c H locs cells slots Qw (F0 m (pc + 1) lsC (.int (Int32.ofInt (alen h 40)) :: st.map (cv ad))) := kk
        rw [alen_s h7, hH.2.2.2.1, oi_nat] at kk
        exact kk
      · have kk : W p l e R s m args below meth c H locs cells slots Qw (F0 m (pc + 1) lsC (.int (Int32.ofInt (alen h o)) :: st.map (cv ad))) := kk
        rw [alen_a h7, oi_nat] at kk
        by_cases h6 : okd o = 6
        · obtain ⟨q, hq, rfl⟩ := f_sta o h6
          exact va_tlen hexec hb (hZ.1 q hq).2 hH.2.2.1 rfl hd kk
        · have ho : o < lim := vlt (vk_h hv) h6 h7 (by omega)
          by_cases h5 : okd o = 5
          · exact va_alen (x := (oln o, .inr (.inl (fun j => gl h o j)))) hexec hb hK hH.1 o 3 (cA := cA 5) (by rw [wrl_get ho, wcell_l h5]) rfl rfl hd kk
          · obtain ⟨t, ht⟩ := f_knd cA o hk h5 h6 h7
            exact va_alen (x := (oln o, .inl (fun j => Int32.ofInt (ga h o j)))) hexec hb hK hH.1 o (okd o - 2) (cA := cA (okd o)) (by rw [wrl_get ho, wcell_a rfl (by omega) h5]) ht rfl hd kk
    | false =>
      simp only [k2] at hw
      exact (show False from hw.1).elim
  all_goals exact (show False from hw.1).elim
theorem s_fget {a b : Nat} (hexec : p.tables.exec = Jvm.exec) (hb : c.code = cc) (hts : ∀ w ∈ WS, w.before args s = true) (hown : s.vm.findClass (cn own) = some m.cls) (hK : va_K D cls (tyL cA) s) (hL : lim = 14 ∨ lim = 24)
    (ha : a < nC) (hbn : b < nfl a) (hlk : fldW own idx a b ∈ WS) (hd : decode cc pc = .ok (.getfield idx, 3))
    (hX : ∀ st ls h, X st ls h → Sim D cA ad base lim nL L xs p l e R s m args below meth c cells slots Qw (pc + 3) st ls h) (hw : after call jump Q pc ls h X (fget a b st ls h)) : Sim D cA ad base lim nL L xs p l e R s m args below meth c cells slots Qw pc st ls h := by
  rcases st with _ | ⟨o | o | o, st⟩
  case cons.inr.inr =>
    unfold fget at hw
    cases k2 : ((okd o == 1) && (ocl o == a)) with
    | true =>
      simp only [k2] at hw
      have hk : okd o = 1 ∧ ocl o = a := by simpa using k2
      obtain ⟨hk, rfl⟩ := hk
      intro lsC H locs hv hl hH
      have ho : o < lim := vlt (vk_h hv) (by omega) (by omega) (by omega)
      refine va_get (D := D) (ci := ocl o) (v := ofs ad h o b) (C := cn (ocl o)) (T := FT (ocl o)) (N := nfl (ocl o)) (ref := (FT (ocl o) b).1) hexec hb hts (f_uws _ ha) hown hK hH.1 o (by rw [wrl_get ho, wcell_o hk]) (f_cls _ ha) b hbn (hts _ hlk) (fun _ z => z) (by rw [List.getElem?_map, List.getElem?_range hbn]; rfl) hd ?_
      cases hf : fld o b with
      | zero =>
        simp only [hf] at hw
        have hw : True ∧ X (.inl (ga h o b) :: st) ls h := hw
        have e1 : ofs ad h o b = Value.int (Int32.ofInt (ga h o b)) := by unfold ofs; rw [hf]
        rw [e1]
        exact hX _ _ _ hw.2 lsC H locs (vk_i (vk_t hv)) hl hH
      | succ r =>
        simp only [hf] at hw
        have hw : True ∧ X (.inr (.inr r) :: st) ls h := hw
        have e1 : ofs ad h o b = Value.ref (ad r) := by unfold ofs; rw [hf]
        rw [e1]
        refine hX _ _ _ hw.2 lsC H locs (List.forall_mem_cons.mpr ⟨?_, vk_t hv⟩) hl hH
        exact Or.inl (f_clo lim hL o b r ho hk hbn hf)
    | false =>
      simp only [k2] at hw
      exact (show False from hw.1).elim
  all_goals exact (show False from hw.1).elim
theorem s_fput {a b : Nat} (hexec : p.tables.exec = Jvm.exec) (hb : c.code = cc) (hts : ∀ w ∈ WS, w.before args s = true) (hown : s.vm.findClass (cn own) = some m.cls) (hK : va_K D cls (tyL cA) s) (hlim : lim ≤ 24)
    (ha : a < nC) (hbn : b < nfl a) (hlk : fldW own idx a b ∈ WS) (hfin : (FT a b).2.2.2 = false) (hty : fty a b = (if isZ a b = true then .boolean else .int)) (hd : decode cc pc = .ok (.putfield idx, 3))
    (hX : ∀ st ls h, X st ls h → Sim D cA ad base lim nL L xs p l e R s m args below meth c cells slots Qw (pc + 3) st ls h) (hw : after call jump Q pc ls h X (fput a b st ls h)) : Sim D cA ad base lim nL L xs p l e R s m args below meth c cells slots Qw pc st ls h := by
  rcases st with _ | ⟨v | v, _ | ⟨o | o | o, st⟩⟩
  case cons.inl.cons.inr.inr =>
    unfold fput at hw
    cases k2 : ((okd o == 1) && ((ocl o == a) && (fld o b == 0))) with
    | true =>
      simp only [k2] at hw
      have hk : okd o = 1 ∧ ocl o = a ∧ fld o b = 0 := by simpa using k2
      obtain ⟨hk, rfl, hf⟩ := hk
      have hw : (match isZ (ocl o) b with | true => v = 0 ∨ v = 1 | false => True) ∧ X st ls (sa h o b v) := hw
      intro lsC H locs hv hl hH
      have ho : o < lim := vlt (vk_h (vk_t hv)) (by omega) (by omega) (by omega)
      have hfit : narrow (fty (ocl o) b) (.int (Int32.ofInt v)) = .int (Int32.ofInt v) ∧ fits (fty (ocl o) b) (.int (Int32.ofInt v)) = true := by
        rw [hty]
        cases hz : isZ (ocl o) b with
        | true =>
          rw [hz] at hw
          rcases hw.1 with rfl | rfl <;> exact ⟨by decide, by decide⟩
        | false => exact ⟨rfl, rfl⟩
      refine va_put (D := D) (ci := ocl o) (v := .int (Int32.ofInt v)) (ty := fty (ocl o) b) (C := cn (ocl o)) (T := FT (ocl o)) (N := nfl (ocl o)) (ref := (FT (ocl o) b).1) hexec hb hts (f_uws _ ha) (fty (ocl o)) (f_fty _ ha) (f_fnm _ ha) hown hK hH.1 hH.2.1 hH.2.2.1 o (by rw [wrl_get ho, wcell_o hk]) (f_cls _ ha) b hbn (hts _ hlk) (fun _ z => z) hfin (f_fty _ ha b hbn) hfit.1 hfit.2 (by simpa using hbn) hd (fun H1 locs1 hP1 hD1 hS1 => ?_)
      have e1 : (wrl lim cA ad h).set o (ad o, .inr (ocl o, ((List.range (nfl (ocl o))).map (ofs ad h o)).set b (.int (Int32.ofInt v)))) = wrl lim cA ad (sa h o b v) := by
        refine wrl_set ?_ (fun p hp => wcell_sa hp)
        rw [wcell_o hk]
        refine congrArg (fun z => (ad o, Sum.inr (ocl o, z))) ?_
        apply List.ext_getElem?
        intro i
        rw [List.getElem?_set]
        by_cases hi : i < nfl (ocl o)
        · rw [List.getElem?_map, List.getElem?_map, List.getElem?_range hi]
          by_cases hbi : b = i
          · subst hbi
            rw [if_pos rfl, if_pos (by simpa using hi)]
            show _ = some (ofs ad (sa h o b v) o b)
            unfold ofs
            rw [hf, ga_sa, if_pos rfl]
          · rw [if_neg hbi]
            show some (ofs ad h o i) = some (ofs ad (sa h o b v) o i)
            unfold ofs
            rw [ga_sa, if_neg (by omega)]
        · have e2 : ((List.range (nfl (ocl o))).map (ofs ad (sa h o b v) o))[i]? = none := List.getElem?_eq_none (by simp; omega)
          have e3 : ((List.range (nfl (ocl o))).map (ofs ad h o))[i]? = none := List.getElem?_eq_none (by simp; omega)
          rw [e2, e3, if_neg (by omega)]
      rw [e1] at hP1 hD1
      exact hX _ _ _ hw.2 lsC H1 locs1 (vk_t (vk_t hv)) hl ⟨hP1, hD1, hS1, hH.2.2.2.sa (by omega)⟩
    | false =>
      simp only [k2] at hw
      exact (show False from hw.1).elim
  all_goals exact (show False from hw.1).elim
theorem s_stat {a : Nat} (hexec : p.tables.exec = Jvm.exec) (hb : c.code = cc) (hts : ∀ w ∈ WS, w.before args s = true) (hown : s.vm.findClass (cn own) = some m.cls) (hZ : Stx base ad L xs s s.heap)
    (ha : ((sti a).1, (sti a).2.1, (sti a).2.2, a) ∈ staL) (h24 : 24 ≤ a) (hlk : staW (own, idx, a) ∈ WS ∨ (own, idx, a) ∈ nestS) (hd : decode cc pc = .ok (.getstatic idx, 3))
    (hX : ∀ st ls h, X st ls h → Sim D cA ad base lim nL L xs p l e R s m args below meth c cells slots Qw (pc + 3) st ls h) (hw : after call jump Q pc ls h X (nx True (.inr (.inr a) :: st) ls h)) : Sim D cA ad base lim nL L xs p l e R s m args below meth c cells slots Qw pc st ls h := by
  refine s_push (v := .inr (.inr a)) (Or.inr h24) (fun lsC H locs rest hH _ kk => ?_) hX hw
  rcases hlk with hlk | hlk
  · exact va_gets hexec hb (hZ.1 _ ha).1 hH.2.2.1 hown (hts _ hlk) (fun _ z => z) hd kk
  · exact va_getsN hexec hb (hZ.1 _ ha).1 hH.2.2.1 hown (va_Nw.use rfl (hZ.2.1 _ hlk)) (fun _ z => z) hd kk
end HEAP
