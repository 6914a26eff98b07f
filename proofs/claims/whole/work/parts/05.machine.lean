/-! The abstract machine: ints are unbounded, and tested where it matters; objects are numbers; a method is a row of blocks. -/
def inR (x : Int) : Prop := -2147483648 ≤ x ∧ x ≤ 2147483647
def aand (a b : Int) : Int := (Int32.ofInt a &&& Int32.ofInt b).toInt
def aor (a b : Int) : Int := (Int32.ofInt a ||| Int32.ofInt b).toInt
def axor (a b : Int) : Int := (Int32.ofInt a ^^^ Int32.ofInt b).toInt
def lcm3 (x y : Int64) : Int := if x > y then 1 else if x = y then 0 else -1
def ga (h : Hp) (a : Nat) (i : Int) : Int := h.1 a i
def gl (h : Hp) (a : Nat) (i : Int) : Int64 := h.2 a i
def sa (h : Hp) (a : Nat) (i : Int) (v : Int) : Hp := (fun b j => if b = a ∧ j = i then v else h.1 b j, h.2)
def sl (h : Hp) (a : Nat) (i : Int) (v : Int64) : Hp := (h.1, fun b j => if b = a ∧ j = i then v else h.2 b j)
def nth : AL → Nat → Option AV
  | [], _ => none
  | x :: _, 0 => x
  | _ :: l, k + 1 => nth l k
def put : AL → Nat → Option AV → AL
  | [], _, _ => []
  | _ :: l, 0, v => v :: l
  | x :: l, k + 1, v => x :: put l k v
def isL : Option AV → Bool
  | some (.inr (.inl _)) => true
  | _ => false
def prevL (ls : AL) : Nat → Bool
  | 0 => false
  | k + 1 => isL (nth ls k)
def nx (g : Prop) (st : List AV) (ls : AL) (h : Hp) : SR := .inl (g, st, ls, h)
def br (g c : Prop) (off : Int) (st : List AV) : SR := .inr (.inl (g, c, off, st))
def sw (g : Prop) (l : List (Prop × Int)) (st : List AV) : SR := .inr (.inr (.inl (g, l, st)))
def cl (g : Prop) (m : Nat) (as st : List AV) : SR := .inr (.inr (.inr (.inl (g, m, as, st))))
def rt (g : Prop) (v : Option AV) : SR := .inr (.inr (.inr (.inr (g, v))))
def ldi (k : Nat) (st : List AV) (ls : AL) (h : Hp) : SR := match nth ls k with
  | some (.inl x) => nx True (.inl x :: st) ls h
  | _ => nx False st ls h
def ldl (k : Nat) (st : List AV) (ls : AL) (h : Hp) : SR := match nth ls k with
  | some (.inr (.inl x)) => nx True (.inr (.inl x) :: st) ls h
  | _ => nx False st ls h
def lda (k : Nat) (st : List AV) (ls : AL) (h : Hp) : SR := match nth ls k with
  | some (.inr (.inr x)) => nx True (.inr (.inr x) :: st) ls h
  | _ => nx False st ls h
def sto (k : Nat) (v : AV) (st : List AV) (ls : AL) (h : Hp) : SR := match prevL ls k with
  | false => nx True st (put ls k (some v)) h
  | true => nx False st ls h
def stoi (k : Nat) (st : List AV) (ls : AL) (h : Hp) : SR := match st with
  | .inl x :: st' => sto k (.inl x) st' ls h
  | _ => nx False st ls h
def sta (k : Nat) (st : List AV) (ls : AL) (h : Hp) : SR := match st with
  | .inr (.inr x) :: st' => sto k (.inr (.inr x)) st' ls h
  | _ => nx False st ls h
def stl (k : Nat) (st : List AV) (ls : AL) (h : Hp) : SR := match st with
  | .inr (.inl x) :: st' => (match prevL ls k with
    | false => nx True st' (put (put ls (k + 1) none) k (some (.inr (.inl x)))) h
    | true => nx False st ls h)
  | _ => nx False st ls h
def inc (k : Nat) (n : Int) (st : List AV) (ls : AL) (h : Hp) : SR := match nth ls k with
  | some (.inl x) => sto k (.inl (x + n)) st ls h
  | _ => nx False st ls h
def cmpP : Jvm.ClassFile.Cond → Int → Int → Prop
  | .eq, x, y => x = y
  | .ne, x, y => ¬ x = y
  | .lt, x, y => x < y
  | .ge, x, y => y ≤ x
  | .gt, x, y => y < x
  | .le, x, y => x ≤ y
def swl (x : Int) : Int → List Int → List (Prop × Int)
  | _, [] => []
  | k, o :: os => (x = k, o) :: swl x (k + 1) os
def catw : List AV → Nat
  | [] => 0
  | .inr (.inl _) :: l => 2 + catw l
  | _ :: l => 1 + catw l
def rcv (m : Nat) : List AV → Bool
  | .inr (.inr o) :: _ => (ocl o == mcl m) && (okd o == 1)
  | _ => false
def alen (h : Hp) (o : Nat) : Int := match okd o == 7 with
  | true => ga h 41 0
  | false => (oln o : Int)
def int2 (f : Int → Int → Int) (g : Int → Int → Prop) (st : List AV) (ls : AL) (h : Hp) : SR := match st with
  | .inl y :: .inl x :: st' => nx (g x y) (.inl (f x y) :: st') ls h
  | _ => nx False st ls h
def int1 (f : Int → AV) (g : Int → Prop) (st : List AV) (ls : AL) (h : Hp) : SR := match st with
  | .inl x :: st' => nx (g x) (f x :: st') ls h
  | _ => nx False st ls h
def lng2 (f : Int64 → Int64 → AV) (st : List AV) (ls : AL) (h : Hp) : SR := match st with
  | .inr (.inl y) :: .inr (.inl x) :: st' => nx True (f x y :: st') ls h
  | _ => nx False st ls h
def lngs (f : Int64 → Int32 → Int64) (st : List AV) (ls : AL) (h : Hp) : SR := match st with
  | .inl y :: .inr (.inl x) :: st' => nx True (.inr (.inl (f x (Int32.ofInt y))) :: st') ls h
  | _ => nx False st ls h
/-- an array is read: its kind must be one of the two -/
def ald (k : Nat) (st : List AV) (ls : AL) (h : Hp) : SR := match st with
  | .inl i :: .inr (.inr o) :: st' => (match okd o == k with
    | true => nx (0 ≤ i ∧ i < alen h o) (.inl (ga h o i) :: st') ls h
    | false => nx False st ls h)
  | _ => nx False st ls h
def aldi (st : List AV) (ls : AL) (h : Hp) : SR := match st with
  | .inl i :: .inr (.inr o) :: st' => (match okd o == 2 with
    | true => nx (0 ≤ i ∧ i < alen h o) (.inl (ga h o i) :: st') ls h
    | false => (match okd o == 6 with
      | true => nx (0 ≤ i ∧ i < alen h o) (.inl (tbl o i) :: st') ls h
      | false => (match okd o == 7 with
        | true => nx (0 ≤ i ∧ i < alen h o) (.inl (ga h o i) :: st') ls h
        | false => nx False st ls h)))
  | _ => nx False st ls h
def ast (k : Nat) (g : Int → Prop) (st : List AV) (ls : AL) (h : Hp) : SR := match st with
  | .inl v :: .inl i :: .inr (.inr o) :: st' => (match okd o == k with
    | true => nx ((0 ≤ i ∧ i < alen h o) ∧ g v) st' ls (sa h o i v)
    | false => nx False st ls h)
  | _ => nx False st ls h
def aldl (st : List AV) (ls : AL) (h : Hp) : SR := match st with
  | .inl i :: .inr (.inr o) :: st' => (match okd o == 5 with
    | true => nx (0 ≤ i ∧ i < alen h o) (.inr (.inl (gl h o i)) :: st') ls h
    | false => nx False st ls h)
  | _ => nx False st ls h
def astl (st : List AV) (ls : AL) (h : Hp) : SR := match st with
  | .inr (.inl v) :: .inl i :: .inr (.inr o) :: st' => (match okd o == 5 with
    | true => nx (0 ≤ i ∧ i < alen h o) st' ls (sl h o i v)
    | false => nx False st ls h)
  | _ => nx False st ls h
def len1 (st : List AV) (ls : AL) (h : Hp) : SR := match st with
  | .inr (.inr o) :: st' => (match decide (2 ≤ okd o) with
    | true => nx True (.inl (alen h o) :: st') ls h
    | false => nx False st ls h)
  | _ => nx False st ls h
def dupv (st : List AV) (ls : AL) (h : Hp) : SR := match st with
  | .inl x :: st' => nx True (.inl x :: .inl x :: st') ls h
  | .inr (.inr x) :: st' => nx True (.inr (.inr x) :: .inr (.inr x) :: st') ls h
  | _ => nx False st ls h
def fget (c k : Nat) (st : List AV) (ls : AL) (h : Hp) : SR := match st with
  | .inr (.inr o) :: st' => (match (okd o == 1) && (ocl o == c) with
    | true => (match fld o k with
      | 0 => nx True (.inl (ga h o k) :: st') ls h
      | r + 1 => nx True (.inr (.inr r) :: st') ls h)
    | false => nx False st ls h)
  | _ => nx False st ls h
def fput (c k : Nat) (st : List AV) (ls : AL) (h : Hp) : SR := match st with
  | .inl v :: .inr (.inr o) :: st' => (match (okd o == 1) && ((ocl o == c) && (fld o k == 0)) with
    | true => nx (match isZ c k with | true => v = 0 ∨ v = 1 | false => True) st' ls (sa h o k v)
    | false => nx False st ls h)
  | _ => nx False st ls h
/-- a call: number 0 is Math.abs, 1 is Math.max; a method m has the number m + 2 -/
def inv (vir : Bool) (a n : Nat) (st : List AV) (ls : AL) (h : Hp) : SR := match a with
  | 0 => int1 (fun x => .inl (if 0 ≤ x then x else 0 - x)) (fun x => inR x ∧ catw (st.drop 1) ≤ 8) st ls h
  | 1 => int2 (fun x y => if x < y then y else x) (fun x y => inR x ∧ inR y ∧ catw (st.drop 2) ≤ 8) st ls h
  | m + 2 => (match !vir || rcv m (st.take n).reverse with
    | true => cl (catw (st.drop n) ≤ 8 ∧ catw (st.take n) = n ∧ (st.take n).length = n) m (st.take n).reverse (st.drop n)
    | false => nx False st ls h)
def rkP (rk : Nat) (v : Int) : Prop := match rk with
  | 0 => False
  | 1 => True
  | _ => v = 0 ∨ v = 1
def retI (rk : Nat) (st : List AV) (ls : AL) (h : Hp) : SR := match st with
  | [.inl v] => rt (rkP rk v) (some (.inl v))
  | _ => nx False st ls h
def retV (rk : Nat) (st : List AV) (ls : AL) (h : Hp) : SR := match st with
  | [] => rt (rk = 0) none
  | _ => nx False st ls h
def brI (c : Jvm.ClassFile.Cond) (off : Int) (st : List AV) (ls : AL) (h : Hp) : SR := match st with
  | .inl y :: .inl x :: st' => br (inR x ∧ inR y) (cmpP c x y) off st'
  | _ => nx False st ls h
def brZ (c : Jvm.ClassFile.Cond) (off : Int) (st : List AV) (ls : AL) (h : Hp) : SR := match st with
  | .inl x :: st' => br (inR x) (cmpP c x 0) off st'
  | _ => nx False st ls h
def swt (d lo hi : Int) (offs : List Int) (st : List AV) (ls : AL) (h : Hp) : SR := match st with
  | .inl x :: st' => sw (inR x) ((x < lo ∨ hi < x, d) :: swl x lo offs) st'
  | _ => nx False st ls h
def stepI (rk : Nat) (e : CE) (st : List AV) (ls : AL) (h : Hp) : SR := match e with
  | (.iconst n, _, _, _, _) => nx True (.inl n :: st) ls h
  | (.bipush n, _, _, _, _) => nx (-128 ≤ n ∧ n ≤ 127) (.inl n :: st) ls h
  | (.sipush n, _, _, _, _) => nx (-32768 ≤ n ∧ n ≤ 32767) (.inl n :: st) ls h
  | (.ldc _, _, _, _, z) => nx True (.inl z :: st) ls h
  | (.ldc2_w _, _, _, _, z) => nx True (.inr (.inl (Int64.ofInt z)) :: st) ls h
  | (.lconst n, _, _, _, _) => nx True (.inr (.inl (Int64.ofNat n)) :: st) ls h
  | (.iload k, _, _, _, _) => ldi k st ls h
  | (.iload_n k, _, _, _, _) => ldi k st ls h
  | (.lload k, _, _, _, _) => ldl k st ls h
  | (.lload_n k, _, _, _, _) => ldl k st ls h
  | (.aload k, _, _, _, _) => lda k st ls h
  | (.aload_n k, _, _, _, _) => lda k st ls h
  | (.istore k, _, _, _, _) => stoi k st ls h
  | (.istore_n k, _, _, _, _) => stoi k st ls h
  | (.lstore k, _, _, _, _) => stl k st ls h
  | (.lstore_n k, _, _, _, _) => stl k st ls h
  | (.astore k, _, _, _, _) => sta k st ls h
  | (.astore_n k, _, _, _, _) => sta k st ls h
  | (.iinc k n, _, _, _, _) => inc k n st ls h
  | (.iadd, _, _, _, _) => int2 (fun x y => x + y) (fun _ _ => True) st ls h
  | (.isub, _, _, _, _) => int2 (fun x y => x - y) (fun _ _ => True) st ls h
  | (.imul, _, _, _, _) => int2 (fun x y => x * y) (fun _ _ => True) st ls h
  | (.iand, _, _, _, _) => int2 aand (fun _ _ => True) st ls h
  | (.ior, _, _, _, _) => int2 aor (fun _ _ => True) st ls h
  | (.ixor, _, _, _, _) => int2 axor (fun _ _ => True) st ls h
  | (.idiv, _, _, _, _) => int2 (fun x y => x / y) (fun x y => (0 ≤ x ∧ x ≤ 2147483647) ∧ 0 < y ∧ y ≤ 2147483647) st ls h
  | (.irem, _, _, _, _) => int2 (fun x y => x % y) (fun x y => (0 ≤ x ∧ x ≤ 2147483647) ∧ 0 < y ∧ y ≤ 2147483647) st ls h
  | (.ishl, _, _, _, _) => int2 (fun x y => x * 2 ^ y.toNat) (fun _ y => 0 ≤ y ∧ y ≤ 31) st ls h
  | (.ishr, _, _, _, _) => int2 (fun x y => x / 2 ^ y.toNat) (fun x y => inR x ∧ 0 ≤ y ∧ y ≤ 31) st ls h
  | (.ineg, _, _, _, _) => int1 (fun x => .inl (-x)) (fun _ => True) st ls h
  | (.i2l, _, _, _, _) => int1 (fun x => .inr (.inl (Int64.ofInt x))) inR st ls h
  | (.i2b, _, _, _, _) => int1 (fun x => .inl x) (fun x => -128 ≤ x ∧ x ≤ 127) st ls h
  | (.i2s, _, _, _, _) => int1 (fun x => .inl x) (fun x => -32768 ≤ x ∧ x ≤ 32767) st ls h
  | (.l2i, _, _, _, _) => (match st with
    | .inr (.inl x) :: st' => nx True (.inl x.toInt32.toInt :: st') ls h
    | _ => nx False st ls h)
  | (.land, _, _, _, _) => lng2 (fun x y => .inr (.inl (x &&& y))) st ls h
  | (.lor, _, _, _, _) => lng2 (fun x y => .inr (.inl (x ||| y))) st ls h
  | (.lcmp, _, _, _, _) => lng2 (fun x y => .inl (lcm3 x y)) st ls h
  | (.lshl, _, _, _, _) => lngs (fun x y => x <<< (y.toInt64 &&& 63)) st ls h
  | (.lshr, _, _, _, _) => lngs (fun x y => x >>> (y.toInt64 &&& 63)) st ls h
  | (.iaload, _, _, _, _) => aldi st ls h
  | (.baload, _, _, _, _) => ald 3 st ls h
  | (.saload, _, _, _, _) => ald 4 st ls h
  | (.laload, _, _, _, _) => aldl st ls h
  | (.iastore, _, _, _, _) => ast 2 (fun _ => True) st ls h
  | (.bastore, _, _, _, _) => ast 3 (fun v => -128 ≤ v ∧ v ≤ 127) st ls h
  | (.sastore, _, _, _, _) => ast 4 (fun v => -32768 ≤ v ∧ v ≤ 32767) st ls h
  | (.lastore, _, _, _, _) => astl st ls h
  | (.arraylength, _, _, _, _) => len1 st ls h
  | (.dup, _, _, _, _) => dupv st ls h
  | (.getfield _, _, a, b, _) => fget a b st ls h
  | (.putfield _, _, a, b, _) => fput a b st ls h
  | (.getstatic _, _, a, _, _) => nx True (.inr (.inr a) :: st) ls h
  | (.invokestatic _, _, a, b, _) => inv false a b st ls h
  | (.invokevirtual _, _, a, b, _) => inv true a b st ls h
  | (.if_icmp c off, _, _, _, _) => brI c off st ls h
  | (.ifCond c off, _, _, _, _) => brZ c off st ls h
  | (.goto off, _, _, _, _) => sw True [(True, off)] st
  | (.tableswitch d lo hi offs, _, _, _, _) => swt d lo hi offs.toList st ls h
  | (.ireturn, _, _, _, _) => retI rk st ls h
  | (.return_, _, _, _, _) => retV rk st ls h
  | _ => nx False st ls h
def allS : List (Prop × Int) → (Int → Prop) → Prop
  | [], _ => True
  | q :: l, k => (q.1 → k q.2) ∧ allS l k
/-- what a step asks of what comes behind it -/
def after (call : Nat → List AV → Hp → (Option AV → Hp → Prop) → Prop) (jump : Nat → List AV → AL → Hp → Prop) (Q : Option AV → Hp → Prop) (pc : Nat) (ls : AL) (h : Hp) (k : List AV → AL → Hp → Prop) : SR → Prop
  | .inl (g, st', ls', h') => g ∧ k st' ls' h'
  | .inr (.inl (g, c, off, st')) => g ∧ (c → jump ((pc : Int) + off).toNat st' ls h) ∧ (¬ c → k st' ls h)
  | .inr (.inr (.inl (g, l, st'))) => g ∧ allS l (fun off => jump ((pc : Int) + off).toNat st' ls h)
  | .inr (.inr (.inr (.inl (g, m, as, st')))) => g ∧ call m as h (fun r h' => k (r.toList ++ st') ls h')
  | .inr (.inr (.inr (.inr (g, v)))) => g ∧ Q v h
def wpI (call : Nat → List AV → Hp → (Option AV → Hp → Prop) → Prop) (jump : Nat → List AV → AL → Hp → Prop) (Q : Option AV → Hp → Prop) (rk : Nat) : Nat → List CE → List AV → AL → Hp → Prop
  | pc, [], st, ls, h => jump pc st ls h
  | pc, e :: is, st, ls, h => after call jump Q pc ls h (fun st' ls' h' => wpI call jump Q rk (pc + e.2.1) is st' ls' h') (stepI rk e st ls h)
def WpAt (call : Nat → List AV → Hp → (Option AV → Hp → Prop) → Prop) (Q : Option AV → Hp → Prop) (m : Nat) (pc : Nat) (st : List AV) (ls : AL) (h : Hp) : Prop :=
  ∀ P : Nat → List AV → AL → Hp → Prop, (∀ pc st ls h, wpI call P Q (mrk m) pc (mbk m pc) st ls h → P pc st ls h) → P pc st ls h
def entL (as : List AV) (n : Nat) : AL := as.map some ++ List.replicate (n - as.length) none
def wpM : Nat → Nat → List AV → Hp → (Option AV → Hp → Prop) → Prop
  | 0 => fun _ _ _ _ => False
  | d + 1 => fun m as h Q => WpAt (wpM d) Q m 0 [] (entL as (mml m)) h
theorem allS_mono {l : List (Prop × Int)} {k k' : Int → Prop} (hk : ∀ o, k o → k' o) : allS l k → allS l k' := by
  induction l with
  | nil => exact fun h => h
  | cons q l ih => exact fun h => ⟨fun c => hk _ (h.1 c), ih h.2⟩
theorem after_mono {call call' : Nat → List AV → Hp → (Option AV → Hp → Prop) → Prop} {jump jump' : Nat → List AV → AL → Hp → Prop} {Q Q' : Option AV → Hp → Prop} {pc : Nat} {ls : AL} {h : Hp} {k k' : List AV → AL → Hp → Prop}
    (hc : ∀ m a h (R R' : Option AV → Hp → Prop), (∀ r h, R r h → R' r h) → call m a h R → call' m a h R') (hj : ∀ pc st ls h, jump pc st ls h → jump' pc st ls h) (hq : ∀ r h, Q r h → Q' r h) (hk : ∀ st ls h, k st ls h → k' st ls h) :
    ∀ r : SR, after call jump Q pc ls h k r → after call' jump' Q' pc ls h k' r
  | .inl (_, _, _, _), x => ⟨x.1, hk _ _ _ x.2⟩
  | .inr (.inl (_, _, _, _)), x => ⟨x.1, fun c => hj _ _ _ _ (x.2.1 c), fun c => hk _ _ _ (x.2.2 c)⟩
  | .inr (.inr (.inl (_, _, _))), x => ⟨x.1, allS_mono (fun _ => hj _ _ _ _) x.2⟩
  | .inr (.inr (.inr (.inl (_, _, _, _)))), x => ⟨x.1, hc _ _ _ _ _ (fun _ _ => hk _ _ _) x.2⟩
  | .inr (.inr (.inr (.inr (_, _)))), x => ⟨x.1, hq _ _ x.2⟩
theorem wpI_mono {call call' : Nat → List AV → Hp → (Option AV → Hp → Prop) → Prop} {jump jump' : Nat → List AV → AL → Hp → Prop} {Q Q' : Option AV → Hp → Prop} {rk : Nat}
    (hc : ∀ m a h (R R' : Option AV → Hp → Prop), (∀ r h, R r h → R' r h) → call m a h R → call' m a h R') (hj : ∀ pc st ls h, jump pc st ls h → jump' pc st ls h) (hq : ∀ r h, Q r h → Q' r h) :
    ∀ (is : List CE) (pc : Nat) (st : List AV) (ls : AL) (h : Hp), wpI call jump Q rk pc is st ls h → wpI call' jump' Q' rk pc is st ls h := by
  intro is
  induction is with
  | nil => exact fun pc st ls h x => hj _ _ _ _ x
  | cons e is ih => exact fun pc st ls h x => after_mono hc hj hq (fun st ls h => ih _ st ls h) _ x
theorem wpAt_mono {call call' : Nat → List AV → Hp → (Option AV → Hp → Prop) → Prop} {Q Q' : Option AV → Hp → Prop} {m : Nat}
    (hc : ∀ m a h (R R' : Option AV → Hp → Prop), (∀ r h, R r h → R' r h) → call m a h R → call' m a h R') (hq : ∀ r h, Q r h → Q' r h) {pc : Nat} {st : List AV} {ls : AL} {h : Hp} (x : WpAt call Q m pc st ls h) : WpAt call' Q' m pc st ls h :=
  fun P hP => x P (fun pc st ls h y => hP _ _ _ _ (wpI_mono hc (fun _ _ _ _ z => z) hq _ _ _ _ _ y))
theorem wpM_mono : ∀ (d m : Nat) (as : List AV) (h : Hp) (R R' : Option AV → Hp → Prop), (∀ r h, R r h → R' r h) → wpM d m as h R → wpM d m as h R'
  | 0, _, _, _, _, _, _, x => x
  | d + 1, _, _, _, _, _, hr, x => wpAt_mono (fun m a h R R' hr y => wpM_mono d m a h R R' hr y) hr x
theorem wpM_up : ∀ (d m : Nat) (as : List AV) (h : Hp) (R : Option AV → Hp → Prop), wpM d m as h R → wpM (d + 1) m as h R
  | 0, _, _, _, _, x => x.elim
  | d + 1, _, _, _, _, x => wpAt_mono (fun m a h R R' hr y => wpM_mono (d + 1) m a h R R' hr (wpM_up d m a h R y)) (fun _ _ z => z) x
theorem wpM_le {d d' : Nat} (hd : d ≤ d') {m : Nat} {as : List AV} {h : Hp} {R : Option AV → Hp → Prop} (x : wpM d m as h R) : wpM d' m as h R := by
  induction hd with
  | refl => exact x
  | step _ ih => exact wpM_up _ _ _ _ _ ih
theorem wp_fold {d : Nat} {Q : Option AV → Hp → Prop} {m pc : Nat} {st : List AV} {ls : AL} {h : Hp} (x : wpI (wpM d) (WpAt (wpM d) Q m) Q (mrk m) pc (mbk m pc) st ls h) : WpAt (wpM d) Q m pc st ls h :=
  fun P hP => hP _ _ _ _ (wpI_mono (wpM_mono d) (fun _ _ _ _ z => z P hP) (fun _ _ z => z) _ _ _ _ _ x)
theorem wp_in {d : Nat} {Q : Option AV → Hp → Prop} {m : Nat} {as : List AV} {h : Hp} (x : wpI (wpM d) (WpAt (wpM d) Q m) Q (mrk m) 0 (mbk m 0) [] (entL as (mml m)) h) : wpM (d + 1) m as h Q := wp_fold x
/-- a loop: an invariant over a state, a measure that falls -/
theorem wp_loop {σ : Type} {d : Nat} {Q : Option AV → Hp → Prop} {m pc : Nat} (I : σ → Prop) (μ : σ → Nat) (St : σ → List AV) (L : σ → AL) (Hh : σ → Hp)
    (step : ∀ s, I s → (∀ s', I s' → μ s' < μ s → WpAt (wpM d) Q m pc (St s') (L s') (Hh s')) → wpI (wpM d) (WpAt (wpM d) Q m) Q (mrk m) pc (mbk m pc) (St s) (L s) (Hh s)) (s : σ) (hs : I s) : WpAt (wpM d) Q m pc (St s) (L s) (Hh s) := by
  have key : ∀ n s, μ s < n → I s → WpAt (wpM d) Q m pc (St s) (L s) (Hh s) := by
    intro n
    induction n with
    | zero => exact fun s h => absurd h (Nat.not_lt_zero _)
    | succ n ih => exact fun s h hi => wp_fold (step s hi (fun s' hi' hm => ih s' (by omega) hi'))
  exact key _ s (Nat.lt_succ_self _) hs
theorem wpAt_iff {d : Nat} {Q : Option AV → Hp → Prop} {m pc : Nat} {st : List AV} {ls : AL} {h : Hp} : WpAt (wpM d) Q m pc st ls h ↔ wpI (wpM d) (WpAt (wpM d) Q m) Q (mrk m) pc (mbk m pc) st ls h :=
  ⟨fun x => x _ (fun _ _ _ _ y => wpI_mono (wpM_mono d) (fun _ _ _ _ z => wp_fold z) (fun _ _ z => z) _ _ _ _ _ y), wp_fold⟩
