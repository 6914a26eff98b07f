/-! A step of the abstract machine, and the kit's row for it. -/
def scrR (L : Nat) (xs : Nat → Int32) (h : Hp) : Prop := ga h 41 0 = (L : Int) ∧ ∀ j : Nat, j < L → Int32.ofInt (ga h 40 j) = xs j
theorem scrR.sa {L : Nat} {xs : Nat → Int32} {h : Hp} {o : Nat} {i v : Int} (ho : o < 40) (x : scrR L xs h) : scrR L xs (sa h o i v) := ⟨by rw [ga_ne (by omega)]; exact x.1, fun j hj => by rw [ga_ne (by omega)]; exact x.2 j hj⟩
theorem scrR.sl {L : Nat} {xs : Nat → Int32} {h : Hp} {o : Nat} {i : Int} {v : Int64} (x : scrR L xs h) : scrR L xs (sl h o i v) := x
/-- what lies outside: the constant tables, the words of nest mates, the script -/
def Stx (base : Nat) (ad : Nat → Nat) (L : Nat) (xs : Nat → Int32) (U : State) (H : Heap) : Prop :=
  (∀ q ∈ staL, va_Z q.1 q.2.1 q.2.2.1 (.ref (ad q.2.2.2)) (fun q : Nat => base ≤ q) U H ∧ va_T .int (ad q.2.2.2) (oln q.2.2.2) (fun j => .int (Int32.ofInt (tbl q.2.2.2 j))) (fun q : Nat => base ≤ q) U H) ∧
  (∀ q ∈ nestS, va_Nw (nestSw q) U) ∧ (∀ q ∈ nestM, va_Nw (nestMw q) U) ∧ va_X (ad 40) L xs U H ∧ ad 40 < base ∧ ad 40 < H.size ∧ L ≤ 2048
theorem Stx.move {base : Nat} {ad : Nat → Nat} {L : Nat} {xs : Nat → Int32} {u U : State} {H H1 : Heap} (x : Stx base ad L xs u H) (hW : u.WarmedH U.vm) (hz : H.size ≤ H1.size) (hq : ∀ a : Nat, a < H.size → ¬ base ≤ a → H1[a]? = H[a]?) : Stx base ad L xs U H1 := by
  obtain ⟨h1, h2, h3, h4, h5, h6, h7⟩ := x
  exact ⟨fun q hq1 => ⟨((h1 q hq1).1.moved hW.alike).kept hq, ((h1 q hq1).2.moved hW.alike).kept hq⟩, fun q hq1 => va_Nw.warmF hW (h2 q hq1), fun q hq1 => va_Nw.warmM hW (h3 q hq1), (h4.moved hW.alike).kept (hq _ h6 (by omega)), h5, by omega, h7⟩
def WH (D : va_G) (cA : Nat → ClassId) (ad : Nat → Nat) (base lim L : Nat) (xs : Nat → Int32) (s : State) (h : Hp) (H : Heap) (locs : List Loc) : Prop :=
  va_P D cls (wrl lim cA ad h) H ∧ va_D (fun q : Nat => base ≤ q) (wrl lim cA ad h) ∧ va_S (fun q : Nat => base ≤ q) s.heap H locs ∧ scrR L xs h
def Sim (D : va_G) (cA : Nat → ClassId) (ad : Nat → Nat) (base lim nL L : Nat) (xs : Nat → Int32) (p : Program) (l : Launch) (e : Env) (R : Room) (s : State) (m : MethodId) (args : Array Value) (below : List Frame) (meth : Method) (c : Code) (cells slots : Nat) (Qw : State → Prop) (pc : Nat) (st : List AV) (ls : AL) (h : Hp) : Prop :=
  ∀ (lsC : Array Slot) (H : Heap) (locs : List Loc), (∀ v ∈ st, vok lim v) → LH ad lim nL ls lsC → WH D cA ad base lim L xs s h H locs → W p l e R s m args below meth c H locs cells slots Qw (F0 m pc lsC (st.map (cv ad)))
theorem vk_i {lim : Nat} {st : List AV} {z : Int} (h : ∀ v ∈ st, vok lim v) : ∀ v ∈ (.inl z :: st : List AV), vok lim v := List.forall_mem_cons.mpr ⟨trivial, h⟩
theorem vk_l {lim : Nat} {st : List AV} {z : Int64} (h : ∀ v ∈ st, vok lim v) : ∀ v ∈ (.inr (.inl z) :: st : List AV), vok lim v := List.forall_mem_cons.mpr ⟨trivial, h⟩
theorem vk_t {lim : Nat} {st : List AV} {z : AV} (h : ∀ v ∈ (z :: st : List AV), vok lim v) : ∀ v ∈ st, vok lim v := (List.forall_mem_cons.mp h).2
theorem vk_h {lim : Nat} {st : List AV} {z : AV} (h : ∀ v ∈ (z :: st : List AV), vok lim v) : vok lim z := (List.forall_mem_cons.mp h).1
section ROWS
variable {D : va_G} {cA : Nat → ClassId} {ad : Nat → Nat} {base lim nL L : Nat} {xs : Nat → Int32} {p : Program} {l : Launch} {e : Env} {R : Room} {s : State} {m : MethodId} {args : Array Value} {below : List Frame} {meth : Method} {c : Code} {cells slots : Nat} {Qw : State → Prop}
variable {cc : ByteArray} {pc len : Nat} {st : List AV} {ls : AL} {h : Hp} {call : Nat → List AV → Hp → (Option AV → Hp → Prop) → Prop} {jump : Nat → List AV → AL → Hp → Prop} {Q : Option AV → Hp → Prop} {X : List AV → AL → Hp → Prop}
theorem s_int2 {f : Int → Int → Int} {g : Int → Int → Prop}
    (row : ∀ (x y : Int) (lsC : Array Slot) (H : Heap) (locs : List Loc) (rest : List Value), g x y → W p l e R s m args below meth c H locs cells slots Qw (F0 m (pc + len) lsC (.int (Int32.ofInt (f x y)) :: rest)) → W p l e R s m args below meth c H locs cells slots Qw (F0 m pc lsC (.int (Int32.ofInt y) :: .int (Int32.ofInt x) :: rest)))
    (hX : ∀ st ls h, X st ls h → Sim D cA ad base lim nL L xs p l e R s m args below meth c cells slots Qw (pc + len) st ls h) (hw : after call jump Q pc ls h X (int2 f g st ls h)) : Sim D cA ad base lim nL L xs p l e R s m args below meth c cells slots Qw pc st ls h := by
  rcases st with _ | ⟨y | y, _ | ⟨x | x, st⟩⟩
  case cons.inl.cons.inl =>
    have hw : g x y ∧ X (.inl (f x y) :: st) ls h := hw
    exact fun lsC H locs hv hl hH => row x y lsC H locs _ hw.1 (hX _ _ _ hw.2 lsC H locs (vk_i (vk_t (vk_t hv))) hl hH)
  all_goals exact (show False from hw.1).elim
theorem s_int1 {f : Int → AV} {g : Int → Prop} (hf : ∀ x, g x → vok lim (f x))
    (row : ∀ (x : Int) (lsC : Array Slot) (H : Heap) (locs : List Loc) (rest : List Value), g x → W p l e R s m args below meth c H locs cells slots Qw (F0 m (pc + len) lsC (cv ad (f x) :: rest)) → W p l e R s m args below meth c H locs cells slots Qw (F0 m pc lsC (.int (Int32.ofInt x) :: rest)))
    (hX : ∀ st ls h, X st ls h → Sim D cA ad base lim nL L xs p l e R s m args below meth c cells slots Qw (pc + len) st ls h) (hw : after call jump Q pc ls h X (int1 f g st ls h)) : Sim D cA ad base lim nL L xs p l e R s m args below meth c cells slots Qw pc st ls h := by
  rcases st with _ | ⟨x | x, st⟩
  · exact (show False from hw.1).elim
  · have hw : g x ∧ X (f x :: st) ls h := hw
    exact fun lsC H locs hv hl hH => row x lsC H locs _ hw.1 (hX _ _ _ hw.2 lsC H locs (List.forall_mem_cons.mpr ⟨hf x hw.1, vk_t hv⟩) hl hH)
  · exact (show False from hw.1).elim
theorem s_lng2 {f : Int64 → Int64 → AV} (hf : ∀ x y, vok lim (f x y))
    (row : ∀ (x y : Int64) (lsC : Array Slot) (H : Heap) (locs : List Loc) (rest : List Value), W p l e R s m args below meth c H locs cells slots Qw (F0 m (pc + len) lsC (cv ad (f x y) :: rest)) → W p l e R s m args below meth c H locs cells slots Qw (F0 m pc lsC (.long y :: .long x :: rest)))
    (hX : ∀ st ls h, X st ls h → Sim D cA ad base lim nL L xs p l e R s m args below meth c cells slots Qw (pc + len) st ls h) (hw : after call jump Q pc ls h X (lng2 f st ls h)) : Sim D cA ad base lim nL L xs p l e R s m args below meth c cells slots Qw pc st ls h := by
  rcases st with _ | ⟨y | y | y, _ | ⟨x | x | x, st⟩⟩
  case cons.inr.inl.cons.inr.inl =>
    have hw : True ∧ X (f x y :: st) ls h := hw
    exact fun lsC H locs hv hl hH => row x y lsC H locs _ (hX _ _ _ hw.2 lsC H locs (List.forall_mem_cons.mpr ⟨hf x y, vk_t (vk_t hv)⟩) hl hH)
  all_goals exact (show False from hw.1).elim
theorem s_lngs {f : Int64 → Int32 → Int64}
    (row : ∀ (x : Int64) (y : Int32) (lsC : Array Slot) (H : Heap) (locs : List Loc) (rest : List Value), W p l e R s m args below meth c H locs cells slots Qw (F0 m (pc + len) lsC (.long (f x y) :: rest)) → W p l e R s m args below meth c H locs cells slots Qw (F0 m pc lsC (.int y :: .long x :: rest)))
    (hX : ∀ st ls h, X st ls h → Sim D cA ad base lim nL L xs p l e R s m args below meth c cells slots Qw (pc + len) st ls h) (hw : after call jump Q pc ls h X (lngs f st ls h)) : Sim D cA ad base lim nL L xs p l e R s m args below meth c cells slots Qw pc st ls h := by
  rcases st with _ | ⟨y | y, _ | ⟨x | x | x, st⟩⟩
  case cons.inl.cons.inr.inl =>
    have hw : True ∧ X (.inr (.inl (f x (Int32.ofInt y))) :: st) ls h := hw
    exact fun lsC H locs hv hl hH => row x _ lsC H locs _ (hX _ _ _ hw.2 lsC H locs (vk_l (vk_t (vk_t hv))) hl hH)
  all_goals exact (show False from hw.1).elim
theorem s_push {v : AV} {g : Prop} (hv0 : vok lim v) (row : ∀ (lsC : Array Slot) (H : Heap) (locs : List Loc) (rest : List Value), WH D cA ad base lim L xs s h H locs → g → W p l e R s m args below meth c H locs cells slots Qw (F0 m (pc + len) lsC (cv ad v :: rest)) → W p l e R s m args below meth c H locs cells slots Qw (F0 m pc lsC rest))
    (hX : ∀ st ls h, X st ls h → Sim D cA ad base lim nL L xs p l e R s m args below meth c cells slots Qw (pc + len) st ls h) (hw : after call jump Q pc ls h X (nx g (v :: st) ls h)) : Sim D cA ad base lim nL L xs p l e R s m args below meth c cells slots Qw pc st ls h := by
  have hw : g ∧ X (v :: st) ls h := hw
  exact fun lsC H locs hv hl hH => row lsC H locs _ hH hw.1 (hX _ _ _ hw.2 lsC H locs (List.forall_mem_cons.mpr ⟨hv0, hv⟩) hl hH)
theorem s_ldi {k : Nat}
    (row : ∀ (x : Int32) (lsC : Array Slot) (H : Heap) (locs : List Loc) (rest : List Value), lsC[k]? = some (.val (.int x)) → W p l e R s m args below meth c H locs cells slots Qw (F0 m (pc + len) lsC (.int x :: rest)) → W p l e R s m args below meth c H locs cells slots Qw (F0 m pc lsC rest))
    (hX : ∀ st ls h, X st ls h → Sim D cA ad base lim nL L xs p l e R s m args below meth c cells slots Qw (pc + len) st ls h) (hw : after call jump Q pc ls h X (ldi k st ls h)) : Sim D cA ad base lim nL L xs p l e R s m args below meth c cells slots Qw pc st ls h := by
  unfold ldi at hw
  rcases hn : nth ls k with _ | x | x
  · rw [hn] at hw; exact (show False from hw.1).elim
  · rw [hn] at hw
    have hw : True ∧ X (.inl x :: st) ls h := hw
    exact fun lsC H locs hv hl hH => row _ lsC H locs _ (hl.2.2.2 k _ hn).2 (hX _ _ _ hw.2 lsC H locs (vk_i hv) hl hH)
  · rw [hn] at hw; exact (show False from hw.1).elim
theorem s_ldl {k : Nat}
    (row : ∀ (x : Int64) (lsC : Array Slot) (H : Heap) (locs : List Loc) (rest : List Value), lsC[k]? = some (.val (.long x)) → W p l e R s m args below meth c H locs cells slots Qw (F0 m (pc + len) lsC (.long x :: rest)) → W p l e R s m args below meth c H locs cells slots Qw (F0 m pc lsC rest))
    (hX : ∀ st ls h, X st ls h → Sim D cA ad base lim nL L xs p l e R s m args below meth c cells slots Qw (pc + len) st ls h) (hw : after call jump Q pc ls h X (ldl k st ls h)) : Sim D cA ad base lim nL L xs p l e R s m args below meth c cells slots Qw pc st ls h := by
  unfold ldl at hw
  rcases hn : nth ls k with _ | x | x | x
  · rw [hn] at hw; exact (show False from hw.1).elim
  · rw [hn] at hw; exact (show False from hw.1).elim
  · rw [hn] at hw
    have hw : True ∧ X (.inr (.inl x) :: st) ls h := hw
    exact fun lsC H locs hv hl hH => row _ lsC H locs _ (hl.2.2.2 k _ hn).2 (hX _ _ _ hw.2 lsC H locs (vk_l hv) hl hH)
  · rw [hn] at hw; exact (show False from hw.1).elim
theorem s_lda {k : Nat}
    (row : ∀ (x : Nat) (lsC : Array Slot) (H : Heap) (locs : List Loc) (rest : List Value), lsC[k]? = some (.val (.ref x)) → W p l e R s m args below meth c H locs cells slots Qw (F0 m (pc + len) lsC (.ref x :: rest)) → W p l e R s m args below meth c H locs cells slots Qw (F0 m pc lsC rest))
    (hX : ∀ st ls h, X st ls h → Sim D cA ad base lim nL L xs p l e R s m args below meth c cells slots Qw (pc + len) st ls h) (hw : after call jump Q pc ls h X (lda k st ls h)) : Sim D cA ad base lim nL L xs p l e R s m args below meth c cells slots Qw pc st ls h := by
  unfold lda at hw
  rcases hn : nth ls k with _ | x | x | x
  · rw [hn] at hw; exact (show False from hw.1).elim
  · rw [hn] at hw; exact (show False from hw.1).elim
  · rw [hn] at hw; exact (show False from hw.1).elim
  · rw [hn] at hw
    have hw : True ∧ X (.inr (.inr x) :: st) ls h := hw
    exact fun lsC H locs hv hl hH => row _ lsC H locs _ (hl.2.2.2 k _ hn).2 (hX _ _ _ hw.2 lsC H locs (List.forall_mem_cons.mpr ⟨(hl.2.2.2 k _ hn).1, hv⟩) hl hH)
theorem s_sto {k : Nat} {v : AV} {st0 : List AV} (hk : k < nL) (hv0 : ∀ lsC, (∀ v ∈ st0, vok lim v) → LH ad lim nL ls lsC → vok lim v) (hst : (∀ v ∈ st0, vok lim v) → ∀ v ∈ st, vok lim v)
    (row : ∀ (lsC : Array Slot) (H : Heap) (locs : List Loc), (∀ v ∈ st0, vok lim v) → LH ad lim nL ls lsC → lv_has lsC nL (prs ad ls nL) → (∀ lsD : Array Slot, lv_has lsD nL ((k, cv ad v) :: (prs ad ls nL).filter (fun q => !(q.1 == k) && !(q.1 + 1 == k && q.2.category == 2))) → W p l e R s m args below meth c H locs cells slots Qw (F0 m (pc + len) lsD (st.map (cv ad)))) → W p l e R s m args below meth c H locs cells slots Qw (F0 m pc lsC (st0.map (cv ad))))
    (hX : ∀ st ls h, X st ls h → Sim D cA ad base lim nL L xs p l e R s m args below meth c cells slots Qw (pc + len) st ls h) (hw : after call jump Q pc ls h X (sto k v st ls h)) : Sim D cA ad base lim nL L xs p l e R s m args below meth c cells slots Qw pc st0 ls h := by
  unfold sto at hw
  rcases hp : prevL ls k with _ | _
  · rw [hp] at hw
    have hw : True ∧ X st (put ls k (some v)) h := hw
    exact fun lsC H locs hv hl hH => row lsC H locs hv hl hl.has (fun lsD hD => hX _ _ _ hw.2 lsD H locs (hst hv) (hl.put1 (hv0 lsC hv hl) hp hk hD) hH)
  · rw [hp] at hw; exact (show False from hw.1).elim
theorem s_sti {k : Nat} (hk : k < nL)
    (row : ∀ (x : Int32) (lv lv' : List (Nat × Value)) (lsC : Array Slot) (H : Heap) (locs : List Loc) (rest : List Value), lv_has lsC nL lv → (k, Value.int x) :: lv.filter (fun q => !(q.1 == k) && !(q.1 + 1 == k && q.2.category == 2)) = lv' → (∀ lsD : Array Slot, lv_has lsD nL lv' → W p l e R s m args below meth c H locs cells slots Qw (F0 m (pc + len) lsD rest)) → W p l e R s m args below meth c H locs cells slots Qw (F0 m pc lsC (.int x :: rest)))
    (hX : ∀ st ls h, X st ls h → Sim D cA ad base lim nL L xs p l e R s m args below meth c cells slots Qw (pc + len) st ls h) (hw : after call jump Q pc ls h X (stoi k st ls h)) : Sim D cA ad base lim nL L xs p l e R s m args below meth c cells slots Qw pc st ls h := by
  rcases st with _ | ⟨x | x, st⟩
  · exact (show False from hw.1).elim
  · exact s_sto (v := .inl x) (st := st) hk (fun _ _ _ => trivial) (fun hv => vk_t hv) (fun lsC H locs hv hl hh kk => row _ _ _ lsC H locs _ hh rfl kk) hX hw
  · exact (show False from hw.1).elim
theorem s_sta {k : Nat} (hk : k < nL)
    (row : ∀ (x : Nat) (lv lv' : List (Nat × Value)) (lsC : Array Slot) (H : Heap) (locs : List Loc) (rest : List Value), lv_has lsC nL lv → (k, Value.ref x) :: lv.filter (fun q => !(q.1 == k) && !(q.1 + 1 == k && q.2.category == 2)) = lv' → (∀ lsD : Array Slot, lv_has lsD nL lv' → W p l e R s m args below meth c H locs cells slots Qw (F0 m (pc + len) lsD rest)) → W p l e R s m args below meth c H locs cells slots Qw (F0 m pc lsC (.ref x :: rest)))
    (hX : ∀ st ls h, X st ls h → Sim D cA ad base lim nL L xs p l e R s m args below meth c cells slots Qw (pc + len) st ls h) (hw : after call jump Q pc ls h X (sta k st ls h)) : Sim D cA ad base lim nL L xs p l e R s m args below meth c cells slots Qw pc st ls h := by
  rcases st with _ | ⟨x | x | x, st⟩
  · exact (show False from hw.1).elim
  · exact (show False from hw.1).elim
  · exact (show False from hw.1).elim
  · exact s_sto (v := .inr (.inr x)) (st := st) hk (fun _ hv _ => vk_h hv) (fun hv => vk_t hv) (fun lsC H locs hv hl hh kk => row _ _ _ lsC H locs _ hh rfl kk) hX hw
theorem s_stl {k : Nat} (hk : k + 1 < nL)
    (row : ∀ (x : Int64) (lv lv' : List (Nat × Value)) (lsC : Array Slot) (H : Heap) (locs : List Loc) (rest : List Value), lv_has lsC nL lv → (k, Value.long x) :: lv.filter (fun q => !(q.1 == k) && (!(q.1 == k + 1) && !(q.1 + 1 == k && q.2.category == 2))) = lv' → (∀ lsD : Array Slot, lv_has lsD nL lv' → W p l e R s m args below meth c H locs cells slots Qw (F0 m (pc + len) lsD rest)) → W p l e R s m args below meth c H locs cells slots Qw (F0 m pc lsC (.long x :: rest)))
    (hX : ∀ st ls h, X st ls h → Sim D cA ad base lim nL L xs p l e R s m args below meth c cells slots Qw (pc + len) st ls h) (hw : after call jump Q pc ls h X (stl k st ls h)) : Sim D cA ad base lim nL L xs p l e R s m args below meth c cells slots Qw pc st ls h := by
  rcases st with _ | ⟨x | x | x, st⟩
  · exact (show False from hw.1).elim
  · exact (show False from hw.1).elim
  · unfold stl at hw
    rcases hp : prevL ls k with _ | _
    · simp only [hp] at hw
      have hw : True ∧ X st (put (put ls (k + 1) none) k (some (.inr (.inl x)))) h := hw
      exact fun lsC H locs hv hl hH => row x _ _ lsC H locs _ hl.has rfl (fun lsD hD => hX _ _ _ hw.2 lsD H locs (vk_t hv) (hl.put2 (v := .inr (.inl x)) trivial hp (by omega) hD) hH)
    · simp only [hp] at hw
      exact (show False from hw.1).elim
  · exact (show False from hw.1).elim
theorem s_inc {k : Nat} {n : Int} (hk : k < nL) (hexec : p.tables.exec = Jvm.exec) (hb : c.code = cc) (hd : decode cc pc = .ok (.iinc k n, 3))
    (hX : ∀ st ls h, X st ls h → Sim D cA ad base lim nL L xs p l e R s m args below meth c cells slots Qw (pc + 3) st ls h) (hw : after call jump Q pc ls h X (inc k n st ls h)) : Sim D cA ad base lim nL L xs p l e R s m args below meth c cells slots Qw pc st ls h := by
  unfold inc at hw
  rcases hn : nth ls k with _ | x | x
  · rw [hn] at hw; exact (show False from hw.1).elim
  · rw [hn] at hw
    refine s_sto (v := .inl (x + n)) (st := st) (st0 := st) hk (fun _ _ _ => trivial) (fun hv => hv) (fun lsC H locs hv hl hh kk => ?_) hX hw
    obtain ⟨i, hi, hk2⟩ := List.mem_iff_getElem.mp (prs_mem (ad := ad) hk hn)
    exact lv_iinc hexec hb hd hh (k := i) (x := Int32.ofInt x) (by rw [List.getElem?_eq_getElem hi, hk2]; rfl) (Int32.ofInt_add x n).symm hk rfl kk
  · rw [hn] at hw; exact (show False from hw.1).elim
theorem s_brI {cd : Jvm.ClassFile.Cond} {off : Int} (hexec : p.tables.exec = Jvm.exec) (hb : c.code = cc) (hd : decode cc pc = .ok (.if_icmp cd off, 3)) (h0 : 0 ≤ (pc : Int) + off)
    (hJ : ∀ pc st ls h, jump pc st ls h → Sim D cA ad base lim nL L xs p l e R s m args below meth c cells slots Qw pc st ls h) (hX : ∀ st ls h, X st ls h → Sim D cA ad base lim nL L xs p l e R s m args below meth c cells slots Qw (pc + 3) st ls h) (hw : after call jump Q pc ls h X (brI cd off st ls h)) : Sim D cA ad base lim nL L xs p l e R s m args below meth c cells slots Qw pc st ls h := by
  rcases st with _ | ⟨y | y, _ | ⟨x | x, st⟩⟩
  case cons.inl.cons.inl =>
    have hw : (inR x ∧ inR y) ∧ (cmpP cd x y → jump ((pc : Int) + off).toNat st ls h) ∧ (¬ cmpP cd x y → X st ls h) := hw
    obtain ⟨⟨hx, hy⟩, hT, hF⟩ := hw
    have ht : (pc : Int) + off = (((pc : Int) + off).toNat : Int) := (Int.toNat_of_nonneg h0).symm
    intro lsC H locs hv hl hH
    have k1 : cmpP cd x y → W p l e R s m args below meth c H locs cells slots Qw (F0 m ((pc : Int) + off).toNat lsC (st.map (cv ad))) := fun q => hJ _ _ _ _ (hT q) lsC H locs (vk_t (vk_t hv)) hl hH
    have k2 : ¬ cmpP cd x y → W p l e R s m args below meth c H locs cells slots Qw (F0 m (pc + 3) lsC (st.map (cv ad))) := fun q => hX _ _ _ (hF q) lsC H locs (vk_t (vk_t hv)) hl hH
    cases cd with
    | eq => exact lv_icmp_eq hexec hb hd ht (fun q => k1 ((oi_eq hx hy).mp q)) (fun q => k2 (fun z => q ((oi_eq hx hy).mpr z)))
    | ne => exact lv_icmp_ne hexec hb hd ht (fun q => k1 (fun z => q ((oi_eq hx hy).mpr z))) (fun q => k2 (fun z => z ((oi_eq hx hy).mp q)))
    | lt => exact lv_icmp_lt hexec hb hd ht (fun q => k1 ((oi_lt hx hy).mp q)) (fun q => k2 (fun z => q ((oi_lt hx hy).mpr z)))
    | ge => exact lv_icmp_ge hexec hb hd ht (fun q => k1 ((oi_le hy hx).mp q)) (fun q => k2 (fun z => q ((oi_le hy hx).mpr z)))
    | gt => exact lv_icmp_gt hexec hb hd ht (fun q => k1 ((oi_lt hy hx).mp q)) (fun q => k2 (fun z => q ((oi_lt hy hx).mpr z)))
    | le => exact lv_icmp_le hexec hb hd ht (fun q => k1 ((oi_le hx hy).mp q)) (fun q => k2 (fun z => q ((oi_le hx hy).mpr z)))
  all_goals exact (show False from hw.1).elim
theorem s_brZ {cd : Jvm.ClassFile.Cond} {off : Int} (hexec : p.tables.exec = Jvm.exec) (hb : c.code = cc) (hd : decode cc pc = .ok (.ifCond cd off, 3)) (h0 : 0 ≤ (pc : Int) + off)
    (hJ : ∀ pc st ls h, jump pc st ls h → Sim D cA ad base lim nL L xs p l e R s m args below meth c cells slots Qw pc st ls h) (hX : ∀ st ls h, X st ls h → Sim D cA ad base lim nL L xs p l e R s m args below meth c cells slots Qw (pc + 3) st ls h) (hw : after call jump Q pc ls h X (brZ cd off st ls h)) : Sim D cA ad base lim nL L xs p l e R s m args below meth c cells slots Qw pc st ls h := by
  rcases st with _ | ⟨x | x, st⟩
  case cons.inl =>
    have hw : inR x ∧ (cmpP cd x 0 → jump ((pc : Int) + off).toNat st ls h) ∧ (¬ cmpP cd x 0 → X st ls h) := hw
    obtain ⟨hx, hT, hF⟩ := hw
    have hy := inR0
    have ht : (pc : Int) + off = (((pc : Int) + off).toNat : Int) := (Int.toNat_of_nonneg h0).symm
    intro lsC H locs hv hl hH
    have k1 : cmpP cd x 0 → W p l e R s m args below meth c H locs cells slots Qw (F0 m ((pc : Int) + off).toNat lsC (st.map (cv ad))) := fun q => hJ _ _ _ _ (hT q) lsC H locs (vk_t hv) hl hH
    have k2 : ¬ cmpP cd x 0 → W p l e R s m args below meth c H locs cells slots Qw (F0 m (pc + 3) lsC (st.map (cv ad))) := fun q => hX _ _ _ (hF q) lsC H locs (vk_t hv) hl hH
    cases cd with
    | eq => exact lv_if_eq hexec hb hd ht (fun q => k1 ((oi_eq hx hy).mp q)) (fun q => k2 (fun z => q ((oi_eq hx hy).mpr z)))
    | ne => exact lv_if_ne hexec hb hd ht (fun q => k1 (fun z => q ((oi_eq hx hy).mpr z))) (fun q => k2 (fun z => z ((oi_eq hx hy).mp q)))
    | lt => exact lv_if_lt hexec hb hd ht (fun q => k1 ((oi_lt hx hy).mp q)) (fun q => k2 (fun z => q ((oi_lt hx hy).mpr z)))
    | ge => exact lv_if_ge hexec hb hd ht (fun q => k1 ((oi_le hy hx).mp q)) (fun q => k2 (fun z => q ((oi_le hy hx).mpr z)))
    | gt => exact lv_if_gt hexec hb hd ht (fun q => k1 ((oi_lt hy hx).mp q)) (fun q => k2 (fun z => q ((oi_lt hy hx).mpr z)))
    | le => exact lv_if_le hexec hb hd ht (fun q => k1 ((oi_le hx hy).mp q)) (fun q => k2 (fun z => q ((oi_le hx hy).mpr z)))
  all_goals exact (show False from hw.1).elim
theorem s_goto {off : Int} (hexec : p.tables.exec = Jvm.exec) (hb : c.code = cc) (hd : decode cc pc = .ok (.goto off, 3)) (h0 : 0 ≤ (pc : Int) + off)
    (hJ : ∀ pc st ls h, jump pc st ls h → Sim D cA ad base lim nL L xs p l e R s m args below meth c cells slots Qw pc st ls h) (hw : after call jump Q pc ls h X (sw True [(True, off)] st)) : Sim D cA ad base lim nL L xs p l e R s m args below meth c cells slots Qw pc st ls h :=
  fun lsC H locs hv hl hH => lv_goto hexec hb hd (Int.toNat_of_nonneg h0).symm (hJ _ _ _ _ ((show True ∧ (True → jump ((pc : Int) + off).toNat st ls h) ∧ True from hw).2.1 trivial) lsC H locs hv hl hH)
theorem swl_at {x : Int} {k : Int → Prop} : ∀ {os : List Int} {lo : Int} {n : Nat} {off : Int}, allS (swl x lo os) k → os[n]? = some off → x = lo + n → k off
  | [], _, _, _, _, h, _ => by simp at h
  | o :: os, lo, 0, off, hA, h, hx => by
    simp only [List.getElem?_cons_zero, Option.some.injEq] at h
    subst h
    exact hA.1 (by simpa using hx)
  | o :: os, lo, n + 1, off, hA, h, hx => swl_at (os := os) (lo := lo + 1) (n := n) hA.2 (by simpa using h) (by omega)
theorem s_swt {d lo hi : Int} {offs : Array Int} {len : Nat} (hexec : p.tables.exec = Jvm.exec) (hb : c.code = cc) (hd : decode cc pc = .ok (.tableswitch d lo hi offs, len)) (hsz : (offs.size : Int) = hi - lo + 1) (h0 : 0 ≤ (pc : Int) + d) (h1 : ∀ o ∈ offs.toList, 0 ≤ (pc : Int) + o)
    (hJ : ∀ pc st ls h, jump pc st ls h → Sim D cA ad base lim nL L xs p l e R s m args below meth c cells slots Qw pc st ls h) (hw : after call jump Q pc ls h X (swt d lo hi offs.toList st ls h)) : Sim D cA ad base lim nL L xs p l e R s m args below meth c cells slots Qw pc st ls h := by
  rcases st with _ | ⟨x | x, st⟩
  case cons.inl =>
    have hw : inR x ∧ ((x < lo ∨ hi < x) → jump ((pc : Int) + d).toNat st ls h) ∧ allS (swl x lo offs.toList) (fun off => jump ((pc : Int) + off).toNat st ls h) := hw
    obtain ⟨hx, hT, hF⟩ := hw
    intro lsC H locs hv hl hH
    by_cases hc : x < lo ∨ hi < x
    · exact lv_tableOut hexec hb hd (by rw [ti hx]; exact hc) (Int.toNat_of_nonneg h0).symm (hJ _ _ _ _ (hT hc) lsC H locs (vk_t hv) hl hH)
    · have hn : (x - lo).toNat < offs.size := by omega
      have hg : offs.toList[(x - lo).toNat]? = some offs[(x - lo).toNat] := by simp [hn]
      have hm : offs[(x - lo).toNat] ∈ offs.toList := List.mem_of_getElem? hg
      exact lv_tableIn hexec hb hd (by rw [ti hx]; omega) (by rw [ti hx]; omega) (by rw [ti hx]; simpa using hg) (Int.toNat_of_nonneg (h1 _ hm)).symm (hJ _ _ _ _ (swl_at hF hg (by omega)) lsC H locs (vk_t hv) hl hH)
  all_goals exact (show False from hw.1).elim
theorem s_dup (hexec : p.tables.exec = Jvm.exec) (hb : c.code = cc) (hd : decode cc pc = .ok (.dup, 1))
    (hX : ∀ st ls h, X st ls h → Sim D cA ad base lim nL L xs p l e R s m args below meth c cells slots Qw (pc + 1) st ls h) (hw : after call jump Q pc ls h X (dupv st ls h)) : Sim D cA ad base lim nL L xs p l e R s m args below meth c cells slots Qw pc st ls h := by
  rcases st with _ | ⟨x | x | x, st⟩
  · exact (show False from hw.1).elim
  · have hw : True ∧ X (.inl x :: .inl x :: st) ls h := hw
    exact fun lsC H locs hv hl hH => lv_dup hexec hb hd rfl (hX _ _ _ hw.2 lsC H locs (vk_i hv) hl hH)
  · exact (show False from hw.1).elim
  · have hw : True ∧ X (.inr (.inr x) :: .inr (.inr x) :: st) ls h := hw
    exact fun lsC H locs hv hl hH => lv_dup hexec hb hd rfl (hX _ _ _ hw.2 lsC H locs (List.forall_mem_cons.mpr ⟨vk_h hv, hv⟩) hl hH)
end ROWS
