/-! What both objects keep while a script runs. -/
abbrev Ps := (Int → Int) × (Int → Int) × Int × Int × Int × Int
def pB (p : Ps) : Int → Int := p.1
def pK (p : Ps) : Int → Int := p.2.1
def pS (p : Ps) : Int := p.2.2.1
def pR (p : Ps) : Int := p.2.2.2.1
def pP (p : Ps) : Int := p.2.2.2.2.1
def pC (p : Ps) : Int := p.2.2.2.2.2
noncomputable def nxP (p : Ps) (x : Int) : Ps := (plX (pB p) (pS p) (pP p) x, mkK (pB p) (pS p) (x / 512) (x / 8 % 64) (pK p), 1 - pS p, kpA (kpA (pR p) (x / 512)) (x / 8 % 64), plP (pB p) (pS p) (x / 512) (x / 8 % 64), qckM (pB p) (pC p) (x / 512) (x / 8 % 64))
def pGp (p : Ps) : Prop := gp (pB p) (pS p) (pR p) (pP p) ∧ kg (pB p) (pK p)
def pLw (p : Ps) (x : Int) : Prop := (0 ≤ x ∧ x < 32768) ∧ lawC (pB p) (pS p) (pR p) (pP p) x
theorem pGp.nx {p : Ps} {x : Int} (h : pGp p) (hl : pLw p x) : pGp (nxP p x) := by
  have hf : 0 ≤ x / 512 ∧ x / 512 < 64 := by have := hl.1; omega
  have ht : 0 ≤ x / 8 % 64 ∧ x / 8 % 64 < 64 := by omega
  exact ⟨gp_next h.1 hf ht hl.2, kg_next h.1 h.2 hf ht hl.2.1⟩
/-- the positions of a game and the moves between them -/
def hisOk (n : Nat) (H : Nat → Ps) (M : Nat → Int) : Prop := (∀ i : Nat, i ≤ n → pGp (H i) ∧ (0 ≤ pC (H i) ∧ pC (H i) ≤ i)) ∧ (∀ i : Nat, i < n → pLw (H i) (M i) ∧ H (i + 1) = nxP (H i) (M i)) ∧ ∀ i : Nat, i ≤ n → pS (H i) = (if (i : Int) % 2 = 0 then pS (H 0) else 1 - pS (H 0))
def mrkI (h : Hp) : Prop := ∀ j : Nat, j ≤ 512 → inR (ga h 13 j)
def clsI (h : Hp) (n : Nat) (H : Nat → Ps) (M : Nat → Int) (ll : List Int) : Prop := psIs h (pB (H n)) (pK (H n)) (pS (H n)) (pR (H n)) (pP (H n)) (pC (H n)) ∧ ga h 0 4 = 1 ∧ ga h 9 4 = (n : Int) ∧ rowIs h 5 ll ∧ lwIs (pB (H n)) (pS (H n)) (pR (H n)) (pP (H n)) ll ∧ (∀ i : Nat, i ≤ n → ntd h i (pB (H i)) (pS (H i)) (pR (H i)) (tkA (pB (H i)) (pS (H i)) (pR (H i)) (pP (H i)))) ∧ (∀ i : Nat, i < n → ga h 10 i = M i ∧ ga h 11 i = mkU (pB (H i)) (pS (H i)) (pR (H i)) (pP (H i)) (pC (H i)) (M i / 512) (M i / 8 % 64)) ∧ mrkI h
def refI (h : Hp) (n : Nat) (H : Nat → Ps) : Prop := mSt h 0 (pB (H n)) (pS (H n)) (pR (H n)) (pP (H n)) ∧ ga h 14 4 = 1 ∧ ga h 14 5 = (n : Int) ∧ ga h 14 11 = pS (H 0) ∧ ga h 14 12 = pC (H n) ∧ ∀ i : Nat, i ≤ n → kpt h i (pB (H i)) (pS (H i)) (pR (H i)) (pP (H i)) (pC (H i))
def clsO (h : Hp) (b : Int → Int) : Prop := ga h 0 4 = 0 ∧ ga h 3 = b ∧ mrkI h ∧ (-1 ≤ ga h 1 4 ∧ ga h 1 4 < 64)
def refO (h : Hp) (b : Int → Int) : Prop := ga h 14 4 = 0 ∧ bAt h 0 b
/-- both objects stand for the same -/
def gI0 (h : Hp) (N : Nat) : Prop := (∃ b, (clOk b ∧ out0 b) ∧ clsO h b ∧ refO h b) ∨ ∃ n H M ll, n ≤ N ∧ hisOk n H M ∧ clsI h n H M ll ∧ refI h n H
/-- the script stays -/
def frm (S h : Hp) : Prop := ga h 40 = ga S 40 ∧ ga h 41 = ga S 41
def gI (S h : Hp) (N : Nat) : Prop := gI0 h N ∧ frm S h
theorem gI.up {S h : Hp} {N : Nat} (x : gI S h N) : gI S h (N + 1) := by
  refine ⟨?_, x.2⟩
  rcases x.1 with x | ⟨n, H, M, ll, hn, x⟩
  · exact Or.inl x
  · exact Or.inr ⟨n, H, M, ll, by omega, x⟩
theorem offM.fn {h h' : Hp} (x : offM h h') {p : Nat} (hp : p < 14) : ga h' p = ga h p := funext fun j => x.1 p (Or.inl hp) j
theorem offC.fn {h h' : Hp} (x : offC h h') {p : Nat} (hp : 14 ≤ p) : ga h' p = ga h p := funext fun j => x.1 p hp j
theorem frm.oM {S h h' : Hp} (y : frm S h) (x : offM h h') : frm S h' := ⟨(funext fun j => x.1 40 (Or.inr (by decide)) j).trans y.1, (funext fun j => x.1 41 (Or.inr (by decide)) j).trans y.2⟩
theorem frm.oC {S h h' : Hp} (y : frm S h) (x : offC h h') : frm S h' := ⟨(x.fn (by decide)).trans y.1, (x.fn (by decide)).trans y.2⟩
theorem frm.sa {S h : Hp} {o : Nat} {i v : Int} (y : frm S h) (ho : o < 24) : frm S (sa h o i v) := ⟨(funext fun j => ga_ne (by omega)).trans y.1, (funext fun j => ga_ne (by omega)).trans y.2⟩
theorem clsI.of {h h' : Hp} {n : Nat} {H : Nat → Ps} {M : Nat → Int} {ll : List Int} (x : offM h h') (y : clsI h n H M ll) : clsI h' n H M ll := by
  obtain ⟨⟨a1, a2, a3, a4, a5, a6⟩, b, c, ⟨r1, r2, r3⟩, l, m, u, k⟩ := y
  refine ⟨⟨?_, ?_, ?_, ?_, ?_, ?_⟩, ?_, ?_, ⟨?_, r2, ?_⟩, l, ?_, ?_, ?_⟩
  · rw [x.fn (by decide)]; exact a1
  · rw [x.fn (by decide)]; exact a2
  · rw [x.fn (by decide)]; exact a3
  · rw [x.fn (by decide)]; exact a4
  · rw [x.fn (by decide)]; exact a5
  · rw [x.fn (by decide)]; exact a6
  · rw [x.fn (by decide)]; exact b
  · rw [x.fn (by decide)]; exact c
  · rw [x.fn (by decide)]; exact r1
  · intro i v hv
    rw [x.fn (by decide)]; exact r3 i v hv
  · intro i hi
    refine ⟨?_, fun q hq => ?_⟩
    · rw [x.fn (by decide)]; exact (m i hi).1
    · rw [x.2 12 (by decide)]; exact (m i hi).2 q hq
  · intro i hi
    rw [x.fn (by decide), x.fn (by decide)]; exact u i hi
  · intro j hj
    rw [x.fn (by decide)]; exact k j hj
theorem refI.of {h h' : Hp} {n : Nat} {H : Nat → Ps} (x : offC h h') (y : refI h n H) : refI h' n H := by
  obtain ⟨⟨a1, a2, a3, a4⟩, b, c, d, e, k⟩ := y
  refine ⟨⟨?_, ?_, ?_, ?_⟩, ?_, ?_, ?_, ?_, ?_⟩
  · intro s h1 h2
    rw [x.fn (by decide)]; exact a1 s h1 h2
  · rw [x.fn (by decide)]; exact a2
  · rw [x.fn (by decide)]; exact a3
  · rw [x.fn (by decide)]; exact a4
  · rw [x.fn (by decide)]; exact b
  · rw [x.fn (by decide)]; exact c
  · rw [x.fn (by decide)]; exact d
  · rw [x.fn (by decide)]; exact e
  · intro i hi
    obtain ⟨k1, k2, k3, k4, k5⟩ := k i hi
    refine ⟨fun q hq => ?_, ?_, ?_, ?_, ?_⟩
    · rw [x.2 19 (by decide)]; exact k1 q hq
    · rw [x.fn (by decide)]; exact k2
    · rw [x.fn (by decide)]; exact k3
    · rw [x.fn (by decide)]; exact k4
    · rw [x.fn (by decide)]; exact k5
theorem clsO.of {h h' : Hp} {b : Int → Int} (x : offM h h') (y : clsO h b) : clsO h' b := by
  obtain ⟨a1, a2, a3, a4⟩ := y
  refine ⟨?_, ?_, fun j hj => ?_, ?_⟩
  · rw [x.fn (by decide)]; exact a1
  · rw [x.fn (by decide)]; exact a2
  · rw [x.fn (by decide)]; exact a3 j hj
  · rw [x.fn (by decide)]; exact a4
theorem refO.of {h h' : Hp} {b : Int → Int} (x : offC h h') (y : refO h b) : refO h' b := by
  obtain ⟨a1, a2⟩ := y
  refine ⟨?_, fun s h1 h2 => ?_⟩
  · rw [x.fn (by decide)]; exact a1
  · rw [x.fn (by decide)]; exact a2 s h1 h2
theorem refI.lo {h h' : Hp} {n : Nat} {H : Nat → Ps} (x : low h h' 0) (y : refI h n H) : refI h' n H := by
  obtain ⟨a, b, c, d, e, k⟩ := y
  have eq : ∀ p, p ∉ [15, 16, 17, 18] → ga h' p = ga h p := fun p hp => funext fun j => x.1.2 p hp j
  refine ⟨x.st a (by omega), ?_, ?_, ?_, ?_, ?_⟩
  · rw [eq 14 (by decide)]; exact b
  · rw [eq 14 (by decide)]; exact c
  · rw [eq 14 (by decide)]; exact d
  · rw [eq 14 (by decide)]; exact e
  · intro i hi
    obtain ⟨k1, k2, k3, k4, k5⟩ := k i hi
    refine ⟨fun q hq => ?_, ?_, ?_, ?_, ?_⟩
    · show h'.2 19 _ = _
      rw [x.1.1]; exact k1 q hq
    · rw [eq 20 (by decide)]; exact k2
    · rw [eq 21 (by decide)]; exact k3
    · rw [eq 22 (by decide)]; exact k4
    · rw [eq 23 (by decide)]; exact k5
theorem refO.lo {h h' : Hp} {b : Int → Int} (x : low h h' 0) (y : refO h b) : refO h' b :=
  ⟨by rw [x.1.at (by decide)]; exact y.1, fun s h1 h2 => by rw [x.2.1 _ (by omega)]; exact y.2 s h1 h2⟩
theorem tk_in {b : Int → Int} {sd r ps : Int} (h : -1 ≤ ps ∧ ps < 64) : -1 ≤ tkA b sd r ps ∧ tkA b sd r ps < 64 := by
  unfold tkA
  split <;> omega
theorem clsI.G {h : Hp} {n : Nat} {H : Nat → Ps} {M : Nat → Int} {ll : List Int} (hH : hisOk n H M) (hn : n ≤ 512) (y : clsI h n H M ll) : clsG h n (pB (H n)) (pK (H n)) (pS (H n)) (pR (H n)) (pP (H n)) (pC (H n)) ll := by
  obtain ⟨a, b, c, r, l, m, u, k⟩ := y
  obtain ⟨⟨g1, g2⟩, g3⟩ := hH.1 n (Nat.le_refl _)
  have hsd := g1.1.sd
  exact ⟨a, g1.psOk (by omega), b, c, hn, r, fun x hx => ((l.2 x).mp hx).1, (g2 _ hsd.1 hsd.2).1, k⟩
theorem refI.G {h : Hp} {n : Nat} {H : Nat → Ps} {M : Nat → Int} (hH : hisOk n H M) (hn : n ≤ 512) (y : refI h n H) : refG h n (pB (H n)) (pS (H n)) (pR (H n)) (pP (H n)) (pC (H n)) := by
  obtain ⟨a, b, c, d, e, k⟩ := y
  obtain ⟨⟨g1, g2⟩, g3⟩ := hH.1 n (Nat.le_refl _)
  refine ⟨a, g1.mOk, b, c, hn, e, by omega, fun j hj => ?_⟩
  obtain ⟨k1, k2, k3, k4, k5⟩ := k j hj
  obtain ⟨⟨q1, q2⟩, q3⟩ := hH.1 j hj
  have hr := q1.1.rg
  have ht := tk_in (b := pB (H j)) (sd := pS (H j)) (r := pR (H j)) q1.1.ps
  rw [k2, k4]
  unfold inR
  omega
/-! repetition is counted the same -/
theorem pk_all {b c : Int → Int} (hb : bdOk b) (hc : bdOk c) : ((∀ q : Nat, q < 4 → pkN b (16 * q) 16 = pkN c (16 * q) 16) ↔ ∀ s, 0 ≤ s → s < 64 → b s = c s) ∧ ((∀ q : Nat, q < 4 → pkR b (16 * q) 16 = pkR c (16 * q) 16) ↔ ∀ s, 0 ≤ s → s < 64 → b s = c s) := by
  have rg : ∀ {b : Int → Int}, bdOk b → ∀ q : Nat, q < 4 → ∀ i : Nat, i < 16 → 0 ≤ b (16 * q + i) ∧ b (16 * q + i) ≤ 15 := by
    intro b hb q hq i hi
    have := hb (16 * q + i) (by omega) (by omega)
    omega
  have up : ∀ (P : Int → Prop), (∀ q : Nat, q < 4 → ∀ i : Nat, i < 16 → P (16 * q + i)) → ∀ s, 0 ≤ s → s < 64 → P s := by
    intro P h s h1 h2
    have := h (s / 16).toNat (by omega) (s % 16).toNat (by omega)
    rw [show 16 * (((s / 16).toNat : Nat) : Int) + (((s % 16).toNat : Nat) : Int) = s by omega] at this
    exact this
  refine ⟨⟨fun h => ?_, fun h q hq => ?_⟩, ⟨fun h => ?_, fun h q hq => ?_⟩⟩
  · exact up _ (fun q hq i hi => pkN_inj (rg hb q hq) (rg hc q hq) (h q hq) i hi)
  · exact pkN_cong (fun i hi => h _ (by omega) (by omega))
  · exact up _ (fun q hq i hi => pkR_inj (rg hb q hq) (rg hc q hq) (h q hq) i hi)
  · exact pkR_cong (fun i hi => h _ (by omega) (by omega))
theorem alk_same {h : Hp} {n i : Nat} {H : Nat → Ps} {M : Nat → Int} {ll : List Int} (hH : hisOk n H M) (hC : clsI h n H M ll) (hR : refI h n H) (hi : i ≤ n) : alk h n i ↔ alkM h n i := by
  obtain ⟨⟨g1, -⟩, -⟩ := hH.1 i hi
  obtain ⟨⟨f1, -⟩, -⟩ := hH.1 n (Nat.le_refl _)
  obtain ⟨⟨z1, -⟩, -⟩ := hH.1 0 (Nat.zero_le _)
  have s1 := hH.2.2 i hi
  have s2 := hH.2.2 n (Nat.le_refl _)
  obtain ⟨c1, c2⟩ := hC.2.2.2.2.2.1 i hi
  obtain ⟨c3, c4⟩ := hC.2.2.2.2.2.1 n (Nat.le_refl _)
  obtain ⟨k1, k2, -, k4, -⟩ := hR.2.2.2.2.2 i hi
  obtain ⟨l1, l2, -, l4, -⟩ := hR.2.2.2.2.2 n (Nat.le_refl _)
  have hp := pk_all g1.1.bd f1.1.bd
  have e1 : (∀ q : Nat, q < 4 → gl h 12 (4 * (i : Int) + q) = gl h 12 (4 * (n : Int) + q)) ↔ ∀ q : Nat, q < 4 → pkN (pB (H i)) (16 * q) 16 = pkN (pB (H n)) (16 * q) 16 := by
    constructor
    · intro z q hq
      rw [← c2 q hq, ← c4 q hq]; exact z q hq
    · intro z q hq
      rw [c2 q hq, c4 q hq]; exact z q hq
  have e2 : (∀ q : Nat, q < 4 → gl h 19 (4 * (i : Int) + q) = gl h 19 (4 * (n : Int) + q)) ↔ ∀ q : Nat, q < 4 → pkR (pB (H i)) (16 * q) 16 = pkR (pB (H n)) (16 * q) 16 := by
    constructor
    · intro z q hq
      rw [← k1 q hq, ← l1 q hq]; exact z q hq
    · intro z q hq
      rw [k1 q hq, l1 q hq]; exact z q hq
  unfold alk alkM
  rw [e1, e2, hp.1, hp.2, c1, c3, k2, l2, k4, l4]
  have a1 := g1.1.sd
  have a2 := f1.1.sd
  have a3 := g1.1.rg
  have a4 := f1.1.rg
  have a5 := tk_in (b := pB (H i)) (sd := pS (H i)) (r := pR (H i)) g1.1.ps
  have a6 := tk_in (b := pB (H n)) (sd := pS (H n)) (r := pR (H n)) f1.1.ps
  have a7 := z1.1.sd
  have par : pS (H i) = pS (H n) ↔ ((n : Int) - i) % 2 = 0 := by
    by_cases i2 : (i : Int) % 2 = 0
    · rw [if_pos i2] at s1
      by_cases n2 : (n : Int) % 2 = 0
      · rw [if_pos n2] at s2; omega
      · rw [if_neg n2] at s2; omega
    · rw [if_neg i2] at s1
      by_cases n2 : (n : Int) % 2 = 0
      · rw [if_pos n2] at s2; omega
      · rw [if_neg n2] at s2; omega
  generalize tkA (pB (H i)) (pS (H i)) (pR (H i)) (pP (H i)) = t1 at *
  generalize tkA (pB (H n)) (pS (H n)) (pR (H n)) (pP (H n)) = t2 at *
  unfold mrk1
  constructor
  · rintro ⟨h1, h2⟩
    exact ⟨⟨par.mp (by omega), by omega, by omega⟩, h2⟩
  · rintro ⟨⟨h0, h1, h2⟩, h3⟩
    have := par.mpr h0
    exact ⟨by omega, h3⟩
theorem tm_same {h : Hp} {n : Nat} {H : Nat → Ps} {M : Nat → Int} {ll : List Int} (hH : hisOk n H M) (hC : clsI h n H M ll) (hR : refI h n H) : ∀ m : Nat, m ≤ n + 1 → tmC h n m = tmM h n m
  | 0, _ => rfl
  | m + 1, hm => by
    unfold tmC tmM
    rw [tm_same hH hC hR m (by omega), dec_cg (alk_same hH hC hR (by omega))]
theorem tmC_of {h h' : Hp} (x : offM h h') {n : Int} : ∀ m : Nat, tmC h' n m = tmC h n m
  | 0 => rfl
  | m + 1 => by
    unfold tmC
    rw [tmC_of x m]
    have : alk h' n m = alk h n m := by
      unfold alk
      rw [x.fn (by decide)]
      simp only [x.2 12 (by decide)]
    rw [this]
theorem tmM_of {h h' : Hp} (x : offC h h') {n : Int} (m : Nat) : tmM h' n m = tmM h n m :=
  tmM_cong (fun j => x.1 20 (by decide) j) (fun j => x.1 22 (by decide) j) (fun j => x.2 19 (by decide) j) m
/-! a game that has just begun -/
def newH (p : Ps) : Nat → Ps := fun _ => p
theorem his_new {p : Ps} (h : pGp p) (hc : pC p = 0) : hisOk 0 (newH p) (fun _ => 0) :=
  ⟨fun i hi => ⟨h, by show 0 ≤ pC p ∧ pC p ≤ i; omega⟩, fun i hi => by omega, fun i hi => by
    have : i = 0 := by omega
    subst this
    rfl⟩
/-! a move more -/
noncomputable def addH (H : Nat → Ps) (n : Nat) (x : Int) : Nat → Ps := fun i => if i = n + 1 then nxP (H n) x else H i
def addM (M : Nat → Int) (n : Nat) (x : Int) : Nat → Int := fun i => if i = n then x else M i
theorem addH_le {H : Nat → Ps} {n i : Nat} {x : Int} (h : i ≤ n) : addH H n x i = H i := if_neg (by omega)
theorem addH_n {H : Nat → Ps} {n : Nat} {x : Int} : addH H n x (n + 1) = nxP (H n) x := if_pos rfl
theorem addM_lt {M : Nat → Int} {n i : Nat} {x : Int} (h : i < n) : addM M n x i = M i := if_neg (by omega)
theorem addM_n {M : Nat → Int} {n : Nat} {x : Int} : addM M n x n = x := if_pos rfl
theorem his_add {n : Nat} {H : Nat → Ps} {M : Nat → Int} {x : Int} (hH : hisOk n H M) (hx : pLw (H n) x) : hisOk (n + 1) (addH H n x) (addM M n x) := by
  obtain ⟨h1, h2, h3⟩ := hH
  obtain ⟨g1, g2⟩ := h1 n (Nat.le_refl _)
  have hs := g1.1.1.sd
  refine ⟨fun i hi => ?_, fun i hi => ?_, fun i hi => ?_⟩
  · by_cases hin : i = n + 1
    · rw [hin, addH_n]
      refine ⟨g1.nx hx, ?_⟩
      show 0 ≤ qckM (pB (H n)) (pC (H n)) (x / 512) (x / 8 % 64) ∧ qckM (pB (H n)) (pC (H n)) (x / 512) (x / 8 % 64) ≤ _
      unfold qckM
      split <;> omega
    · rw [addH_le (by omega)]
      exact h1 i (by omega)
  · by_cases hin : i = n
    · rw [hin, addH_n, addM_n, addH_le (Nat.le_refl _)]
      exact ⟨hx, rfl⟩
    · rw [addH_le (by omega), addH_le (by omega), addM_lt (by omega)]
      exact h2 i (by omega)
  · rw [addH_le (Nat.zero_le _)]
    by_cases hin : i = n + 1
    · rw [hin, addH_n]
      show 1 - pS (H n) = _
      have := h3 n (Nat.le_refl _)
      have hs0 := (h1 0 (Nat.zero_le _)).1.1.1.sd
      by_cases n2 : (n : Int) % 2 = 0
      · rw [if_pos n2] at this
        rw [if_neg (by omega)]; omega
      · rw [if_neg n2] at this
        rw [if_pos (by omega)]; omega
    · rw [addH_le (by omega)]
      exact h3 i (by omega)
theorem his_sub {n : Nat} {H : Nat → Ps} {M : Nat → Int} (hH : hisOk (n + 1) H M) : hisOk n H M :=
  ⟨fun i hi => hH.1 i (by omega), fun i hi => hH.2.1 i (by omega), fun i hi => hH.2.2 i (by omega)⟩
