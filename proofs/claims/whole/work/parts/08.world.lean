/-! The abstract machine is the machine: a block's steps, by the kit's rows. -/
def cv (ad : Nat → Nat) : AV → Value
  | .inl x => .int (Int32.ofInt x)
  | .inr (.inl y) => .long y
  | .inr (.inr o) => .ref (ad o)
def vok (lim : Nat) : AV → Prop
  | .inr (.inr o) => o < lim ∨ 24 ≤ o
  | _ => True
def wcell (cA : Nat → ClassId) (ad : Nat → Nat) (h : Hp) (o : Nat) : Nat × va_E := (ad o, match okd o with
  | 1 => .inr (ocl o, (List.range (nfl (ocl o))).map (fun k => match fld o k with | 0 => Value.int (Int32.ofInt (ga h o k)) | r + 1 => Value.ref (ad r)))
  | 5 => .inl (cA 5, oln o, .inr (.inl (fun j => gl h o j)))
  | k => .inl (cA k, oln o, .inl (fun j => Int32.ofInt (ga h o j))))
def wrl (lim : Nat) (cA : Nat → ClassId) (ad : Nat → Nat) (h : Hp) : va_W := (List.range lim).map (wcell cA ad h)
theorem wrl_get {lim : Nat} {cA : Nat → ClassId} {ad : Nat → Nat} {h : Hp} {o : Nat} (ho : o < lim) : (wrl lim cA ad h)[o]? = some (wcell cA ad h o) := by
  unfold wrl
  rw [List.getElem?_map, List.getElem?_range ho]
  rfl
theorem wrl_set {lim : Nat} {cA : Nat → ClassId} {ad : Nat → Nat} {h h' : Hp} {o : Nat} {q : Nat × va_E} (hq : q = wcell cA ad h' o) (hne : ∀ p, p ≠ o → wcell cA ad h' p = wcell cA ad h p) : (wrl lim cA ad h).set o q = wrl lim cA ad h' := by
  subst hq
  apply List.ext_getElem?
  intro i
  rw [List.getElem?_set]
  by_cases hi : i < lim
  · rw [wrl_get hi, wrl_get hi]
    by_cases ho : o = i
    · subst ho
      simp [wrl, hi]
    · rw [if_neg ho, hne i (fun z => ho z.symm)]
  · have e1 : (wrl lim cA ad h)[i]? = none := List.getElem?_eq_none (by simp [wrl]; omega)
    have e2 : (wrl lim cA ad h')[i]? = none := List.getElem?_eq_none (by simp [wrl]; omega)
    rw [e1, e2]
    by_cases ho : o = i
    · subst ho
      simp [wrl, hi]
    · rw [if_neg ho]
theorem ga_ne {h : Hp} {o p : Nat} {i j v : Int} (hp : p ≠ o) : ga (sa h o i v) p j = ga h p j := if_neg (fun z => hp z.1)
theorem gl_sa {h : Hp} {o p : Nat} {i j v : Int} : gl (sa h o i v) p j = gl h p j := rfl
theorem gl_ne {h : Hp} {o p : Nat} {i j : Int} {v : Int64} (hp : p ≠ o) : gl (sl h o i v) p j = gl h p j := if_neg (fun z => hp z.1)
theorem ga_sl {h : Hp} {o p : Nat} {i j : Int} {v : Int64} : ga (sl h o i v) p j = ga h p j := rfl
theorem ga_sa {h : Hp} {o : Nat} {i j v : Int} : ga (sa h o i v) o j = if j = i then v else ga h o j := by simp [ga, sa]
theorem gl_sl {h : Hp} {o : Nat} {i j : Int} {v : Int64} : gl (sl h o i v) o j = if j = i then v else gl h o j := by simp [gl, sl]
theorem wcell_sa {cA : Nat → ClassId} {ad : Nat → Nat} {h : Hp} {o p : Nat} {i v : Int} (hp : p ≠ o) : wcell cA ad (sa h o i v) p = wcell cA ad h p := by simp only [wcell, ga_ne hp, gl_sa]
theorem wcell_sl {cA : Nat → ClassId} {ad : Nat → Nat} {h : Hp} {o p : Nat} {i : Int} {v : Int64} (hp : p ≠ o) : wcell cA ad (sl h o i v) p = wcell cA ad h p := by simp only [wcell, ga_sl, gl_ne hp]
def LH (ad : Nat → Nat) (lim nL : Nat) (ls : AL) (lsC : Array Slot) : Prop := lsC.size = nL ∧ lv_wf lsC ∧ ls.length = nL ∧ ∀ k v, nth ls k = some v → vok lim v ∧ lsC[k]? = some (.val (cv ad v))
def prs (ad : Nat → Nat) (ls : AL) (nL : Nat) : List (Nat × Value) := (List.range nL).filterMap (fun k => (nth ls k).map (fun v => (k, cv ad v)))
theorem nth_lt : ∀ {ls : AL} {k : Nat} {v : AV}, nth ls k = some v → k < ls.length
  | [], _, _, h => by cases h
  | _ :: _, 0, _, _ => Nat.succ_pos _
  | _ :: _, _ + 1, _, h => Nat.succ_lt_succ (nth_lt h)
theorem put_len : ∀ {ls : AL} {k : Nat} {v : Option AV}, (put ls k v).length = ls.length
  | [], _, _ => rfl
  | _ :: _, 0, _ => rfl
  | _ :: _, _ + 1, _ => congrArg (· + 1) put_len
theorem nth_put : ∀ {ls : AL} {k : Nat} {v : Option AV}, k < ls.length → nth (put ls k v) k = v
  | [], _, _, h => absurd h (Nat.not_lt_zero _)
  | _ :: _, 0, _, _ => rfl
  | _ :: l, k + 1, v, h => nth_put (ls := l) (k := k) (v := v) (Nat.lt_of_succ_lt_succ h)
theorem nth_put_ne : ∀ {ls : AL} {k j : Nat} {v : Option AV}, j ≠ k → nth (put ls k v) j = nth ls j
  | [], _, _, _, _ => rfl
  | _ :: _, 0, 0, _, h => absurd rfl h
  | _ :: _, 0, _ + 1, _, _ => rfl
  | _ :: _, _ + 1, 0, _, _ => rfl
  | _ :: l, k + 1, j + 1, v, h => nth_put_ne (ls := l) (k := k) (j := j) (v := v) (fun z => h (congrArg (· + 1) z))
theorem prs_mem {ad : Nat → Nat} {ls : AL} {nL k : Nat} {v : AV} (hk : k < nL) (h : nth ls k = some v) : (k, cv ad v) ∈ prs ad ls nL :=
  List.mem_filterMap.mpr ⟨k, List.mem_range.mpr hk, by rw [h]; rfl⟩
theorem LH.has {ad : Nat → Nat} {lim nL : Nat} {ls : AL} {lsC : Array Slot} (h : LH ad lim nL ls lsC) : lv_has lsC nL (prs ad ls nL) := by
  refine ⟨h.1, h.2.1, fun q hq => ?_⟩
  obtain ⟨k, -, hk⟩ := List.mem_filterMap.mp hq
  cases hn : nth ls k with
  | none => rw [hn] at hk; cases hk
  | some v =>
    rw [hn] at hk
    cases hk
    exact (h.2.2.2 k v hn).2
theorem cat_i {ad : Nat → Nat} {v : AV} (h : isL (some v) = false) : (cv ad v).category = 1 := by
  rcases v with x | x | x
  · rfl
  · cases h
  · rfl
theorem LH.put1 {ad : Nat → Nat} {lim nL : Nat} {ls : AL} {lsC lsD : Array Slot} {k : Nat} {v : AV} (hL : LH ad lim nL ls lsC) (hv : vok lim v) (hp : prevL ls k = false) (hk : k < nL)
    (h' : lv_has lsD nL ((k, cv ad v) :: (prs ad ls nL).filter (fun q => !(q.1 == k) && !(q.1 + 1 == k && q.2.category == 2)))) : LH ad lim nL (put ls k (some v)) lsD := by
  refine ⟨h'.1, h'.2.1, put_len.trans hL.2.2.1, fun j w hj => ?_⟩
  by_cases e : j = k
  · subst e
    rw [nth_put (by rw [hL.2.2.1]; exact hk)] at hj
    cases hj
    exact ⟨hv, h'.2.2 _ List.mem_cons_self⟩
  · rw [nth_put_ne e] at hj
    refine ⟨(hL.2.2.2 j w hj).1, h'.2.2 (j, cv ad w) (List.mem_cons_of_mem _ (List.mem_filter.mpr ⟨prs_mem (by rw [← hL.2.2.1]; exact nth_lt hj) hj, ?_⟩))⟩
    by_cases e2 : j + 1 = k
    · subst e2
      have h3 : isL (some w) = false := by rw [← hj]; exact hp
      simp [cat_i h3]
    · simp [e, e2]
theorem LH.put2 {ad : Nat → Nat} {lim nL : Nat} {ls : AL} {lsC lsD : Array Slot} {k : Nat} {v : AV} (hL : LH ad lim nL ls lsC) (hv : vok lim v) (hp : prevL ls k = false) (hk : k < nL)
    (h' : lv_has lsD nL ((k, cv ad v) :: (prs ad ls nL).filter (fun q => !(q.1 == k) && (!(q.1 == k + 1) && !(q.1 + 1 == k && q.2.category == 2))))) : LH ad lim nL (put (put ls (k + 1) none) k (some v)) lsD := by
  refine ⟨h'.1, h'.2.1, put_len.trans (put_len.trans hL.2.2.1), fun j w hj => ?_⟩
  by_cases e : j = k
  · subst e
    rw [nth_put (by rw [put_len, hL.2.2.1]; exact hk)] at hj
    cases hj
    exact ⟨hv, h'.2.2 _ List.mem_cons_self⟩
  · rw [nth_put_ne e] at hj
    by_cases e1 : j = k + 1
    · subst e1
      by_cases h9 : k + 1 < ls.length
      · rw [nth_put h9] at hj
        cases hj
      · have := nth_lt hj
        rw [put_len] at this
        exact absurd this h9
    · rw [nth_put_ne e1] at hj
      refine ⟨(hL.2.2.2 j w hj).1, h'.2.2 (j, cv ad w) (List.mem_cons_of_mem _ (List.mem_filter.mpr ⟨prs_mem (by rw [← hL.2.2.1]; exact nth_lt hj) hj, ?_⟩))⟩
      by_cases e2 : j + 1 = k
      · subst e2
        have h3 : isL (some w) = false := by rw [← hj]; exact hp
        simp [cat_i h3]
        omega
      · simp [e, e1, e2]
theorem arg_mem {ad : Nat → Nat} : ∀ {as : List AV} {i k : Nat} {v : AV}, (∀ v ∈ as, isL (some v) = false) → nth (as.map some) k = some v → (i + k, cv ad v) ∈ lv_args i (as.map (cv ad))
  | [], _, _, _, _, h => by cases h
  | a :: as, i, 0, v, _, h => by
    cases h
    exact List.mem_cons_self
  | a :: as, i, k + 1, v, hn, h => by
    have h1 := arg_mem (ad := ad) (i := i + 1) (fun v hv => hn v (List.mem_cons_of_mem _ hv)) (show nth (as.map some) k = some v from h)
    have h2 : (cv ad a).category = 1 := cat_i (hn a List.mem_cons_self)
    show (i + (k + 1), cv ad v) ∈ (i, cv ad a) :: lv_args (if (cv ad a).category = 2 then i + 2 else i + 1) (as.map (cv ad))
    rw [h2, if_neg (by decide)]
    exact List.mem_cons_of_mem _ (by rw [show i + (k + 1) = i + 1 + k by omega]; exact h1)
theorem sl_len {ad : Nat → Nat} : ∀ {as : List AV}, (∀ v ∈ as, isL (some v) = false) → (lg_sl (as.map (cv ad))).length = as.length
  | [], _ => rfl
  | a :: as, hn => by
    have h2 : (cv ad a).category = 1 := cat_i (hn a List.mem_cons_self)
    have h3 := sl_len (ad := ad) (as := as) (fun v hv => hn v (List.mem_cons_of_mem _ hv))
    unfold lg_sl at h3 ⊢
    rw [List.map_cons, List.flatMap_cons, h2, if_neg (by decide), List.length_append, h3, List.length_cons]
    simp
    omega
theorem nth_app : ∀ {l r : AL} {k : Nat} {v : AV}, nth (l ++ r) k = some v → (∀ x ∈ r, x = none) → nth l k = some v
  | [], [], _, _, h, _ => by cases h
  | [], x :: r, 0, v, h, hr => by
    rw [hr x List.mem_cons_self] at h
    cases h
  | [], x :: r, k + 1, v, h, hr => absurd (nth_app (l := []) (r := r) (k := k) h (fun y hy => hr y (List.mem_cons_of_mem _ hy))) (by intro z; cases z)
  | a :: l, r, 0, v, h, _ => h
  | a :: l, r, k + 1, v, h, hr => nth_app (l := l) (r := r) (k := k) h hr
theorem nth_map {as : List AV} {k : Nat} {v : AV} (h : nth (as.map some) k = some v) : v ∈ as := by
  induction as generalizing k with
  | nil => cases h
  | cons a as ih =>
    cases k with
    | zero => cases h; exact List.mem_cons_self
    | succ k => exact List.mem_cons_of_mem _ (ih h)
theorem LH.entry {ad : Nat → Nat} {lim n : Nat} {as : List AV} (hv : ∀ v ∈ as, vok lim v) (hn : ∀ v ∈ as, isL (some v) = false) (hl : as.length ≤ n) : LH ad lim n (entL as n) ((lg_sl (as.map (cv ad)) ++ List.replicate (n - (lg_sl (as.map (cv ad))).length) Slot.unset).toArray) := by
  have h := lv_entry (as.map (cv ad)) (n := n) (by rw [sl_len hn]; exact hl)
  refine ⟨h.1, h.2.1, by simp [entL]; omega, fun k v hk => ?_⟩
  have h1 := nth_app hk (fun x hx => (List.mem_replicate.mp hx).2)
  refine ⟨hv v (nth_map h1), h.2.2 (k, cv ad v) ?_⟩
  have h2 := arg_mem (ad := ad) (i := 0) hn h1
  rw [Nat.zero_add] at h2
  exact h2
