/-! Each call, on both objects: the same answer, and both stand for the same again. -/
theorem std_cells : ∀ n : Nat, n < 64 → stdB n = 0 ∨ (1 ≤ stdB n ∧ stdB n ≤ 6) ∨ (9 ≤ stdB n ∧ stdB n ≤ 14) := by decide +kernel
theorem std_pawns : ∀ n : Nat, n < 8 → ¬ (stdB n % 8 = 1 ∨ stdB (56 + n) % 8 = 1) := by decide +kernel
theorem std_safe : ∀ n : Nat, n < 64 → ¬ (ofS (stdB n) 0 ∧ hitS stdB n 60) := by
  unfold ofS hitS opnP
  decide +kernel
theorem std_bak : ∀ n : Nat, n < 4 → bakP stdB 15 n := by
  unfold bakP
  decide +kernel
theorem std_sums : (sumF (fun s => if (stdB s ≠ 0 ∧ stdB s / 8 = 0) ∧ stdB s % 8 = 6 then 1 else 0) 64 = 1 ∧ sumF (fun s => if stdB s ≠ 0 ∧ stdB s / 8 = 0 then 1 else 0) 64 ≤ 16) ∧ (sumF (fun s => if (stdB s ≠ 0 ∧ stdB s / 8 = 1) ∧ stdB s % 8 = 6 then 1 else 0) 64 = 1 ∧ sumF (fun s => if stdB s ≠ 0 ∧ stdB s / 8 = 1 then 1 else 0) 64 ≤ 16) := by decide +kernel
theorem std_men : menP stdB 0 ∧ menP stdB 1 := by
  have h := std_sums
  simp only [dec_if] at h
  exact h
theorem gp_std : gp stdB 0 15 (-1) := by
  have hcl : clOk stdB := by
    intro s h1 h2
    obtain ⟨n, rfl⟩ := Int.eq_ofNat_of_zero_le h1
    exact std_cells n (by omega)
  refine ⟨⟨hcl, ?_, by omega, by omega, by omega, std_men, ?_, std_bak, Or.inl rfl⟩, ?_⟩
  · intro s hs
    unfold stdB
    rw [if_neg (by omega), if_neg (by omega), if_neg (by omega), if_neg (by omega)]
  · rintro ⟨f, hf, z⟩
    obtain ⟨n, rfl⟩ := Int.eq_ofNat_of_zero_le hf.1
    exact std_pawns n (by omega) z
  · rw [show (1 : Int) - 0 = 1 from rfl, chk_iff (s := 60) hcl.bd (by omega) std_men.2 (by omega) (by decide)]
    rw [sumF_0 (n := 64) (fun s h1 h2 => ?_)]
    · decide
    · obtain ⟨n, rfl⟩ := Int.eq_ofNat_of_zero_le h1
      exact dec_n (std_safe n (by omega))
/-- the second call, after the first has answered v -/
def two (S : Hp) (D m : Nat) (as : List AV) (h : Hp) (v : Option AV) (N : Nat) : Prop := ∀ Q : Option AV → Hp → Prop, (∀ h', gI S h' N → Q v h') → wpM D m as h Q
theorem gI.cases {S h : Hp} {N : Nat} (x : gI S h N) (hN : N ≤ 512) : (∃ b, (clOk b ∧ out0 b) ∧ clsO h b ∧ refO h b) ∨ ∃ n H M ll, n ≤ N ∧ hisOk n H M ∧ clsI h n H M ll ∧ refI h n H ∧ pGp (H n) ∧ (0 ≤ pC (H n) ∧ pC (H n) ≤ n) ∧ clsG h n (pB (H n)) (pK (H n)) (pS (H n)) (pR (H n)) (pP (H n)) (pC (H n)) ll ∧ refG h n (pB (H n)) (pS (H n)) (pR (H n)) (pP (H n)) (pC (H n)) := by
  rcases x.1 with x | ⟨n, H, M, ll, hn, hH, hC, hR⟩
  · exact Or.inl x
  · exact Or.inr ⟨n, H, M, ll, hn, hH, hC, hR, (hH.1 n (Nat.le_refl _)).1, (hH.1 n (Nat.le_refl _)).2, hC.G hH (by omega), hR.G hH (by omega)⟩
theorem hN_of {n : Nat} {H : Nat → Ps} {ll : List Int} (hg : pGp (H n)) (hck : 0 ≤ pC (H n) ∧ pC (H n) < 30000) (hl : lwIs (pB (H n)) (pS (H n)) (pR (H n)) (pP (H n)) ll) : ∀ c ∈ ll, nxOk (pB (H n)) (pK (H n)) (pS (H n)) (pR (H n)) (pP (H n)) (pC (H n)) c :=
  fun c hc => nx_ok hg.1 hg.2 hck ((hl.2 c).mp hc).1 ((hl.2 c).mp hc).2
/-- out of a game into another -/
theorem begin_new {h h' : Hp} {b : Int → Int} {k0 : Int → Int} {sd r ps : Int} {ll : List Int} (hg : gp b sd r ps) (hm : mrkI h) (hP : psIs h' b (kOf k0 b) sd r ps 0) (e4 : ga h' 0 4 = 1) (e9 : ga h' 9 4 = 0) (h5 : rowIs h' 5 ll) (hl : lgIs b (kOf k0 b) sd r ps ll) (hn : ntd h' 0 b sd r (tpA b ps ll)) (hk : ∀ j, ¬ j = 0 → ga h' 13 j = ga h 13 j) : pGp (b, kOf k0 b, sd, r, ps, 0) ∧ clsI h' 0 (newH (b, kOf k0 b, sd, r, ps, 0)) (fun _ => 0) ll := by
  have hkg : kg b (kOf k0 b) := kg_of hg.1.bd hg.1.m0 hg.1.m1
  have hlw := lg_lw hg hkg hl
  refine ⟨⟨hg, hkg⟩, hP, e4, e9, h5, hlw, fun i hi => ?_, fun i hi => by omega, fun j hj => ?_⟩
  · have : i = 0 := by omega
    subst this
    rw [tp_same hg hlw] at hn
    exact hn
  · by_cases hj0 : (j : Int) = 0
    · rw [hj0]
      have h1 := hn.1
      have h2 := tpA_in (b := b) (ll := ll) hg.1.ps
      have h3 := hg.1.rg
      have h4 := hg.1.sd
      rw [show ((0 : Nat) : Int) = 0 from rfl] at h1
      rw [h1]
      unfold mrk1 inR
      omega
    · rw [hk j hj0]; exact hm j hj
theorem begin_ref {h' : Hp} {p : Ps} (hS : mSt h' 0 (pB p) (pS p) (pR p) (pP p)) (e4 : ga h' 14 4 = 1) (e5 : ga h' 14 5 = 0) (e11 : ga h' 14 11 = pS p) (e12 : ga h' 14 12 = pC p) (hk : kpt h' 0 (pB p) (pS p) (pR p) (pP p) (pC p)) : refI h' 0 (newH p) :=
  ⟨hS, e4, e5, e11, e12, fun i hi => by
    have : i = 0 := by omega
    subst this
    exact hk⟩
theorem gI.out {S h : Hp} {N : Nat} (x : gI S h N) : out0 (ga h 3) ∧ mrkI h := by
  rcases x.1 with ⟨b, hb, hc, -⟩ | ⟨n, H, M, ll, hn, hH, hC, -⟩
  · exact ⟨by rw [hc.2.1]; exact hb.2, hc.2.2.1⟩
  · exact ⟨by rw [hC.1.1]; exact (hH.1 n (Nat.le_refl _)).1.1.1.ou, hC.2.2.2.2.2.2.2⟩
theorem op_standard {S : Hp} {N : Nat} {d : Nat} {h : Hp} {Q : Option AV → Hp → Prop} (hI : gI S h N) (hq : ∀ h1, frm S h1 → two S (d + 11) 68 [.inr (.inr 14)] h1 none (N + 1) → Q none h1) : wpM (d + 11) 13 [.inr (.inr 0)] h Q := by
  have ho := hI.out
  refine wpM_le (d := 7) (by omega) (w_standard2 ho.1 (gp_fn gp_std.1 (kg_of gp_std.1.bd gp_std.1.m0 gp_std.1.m1)) (fun h1 ll a1 a2 a3 a4 a5 a6 a7 a8 => hq h1 (hI.2.oC (offC.pt a1 (by decide) (by decide))) ?_))
  obtain ⟨hp, hc⟩ := begin_new gp_std ho.2 a2 a3 a4 a5 a6 a7 a8
  intro Q2 hq2
  refine w_mStandard (fun h2 x b1 b2 b3 b4 b5 b6 => hq2 h2 ?_)
  exact ⟨Or.inr ⟨0, _, _, ll, by omega, his_new hp rfl, hc.of x, begin_ref b1 b2 b3 b4 b5 b6⟩, (hI.2.oC (offC.pt a1 (by decide) (by decide))).oM x⟩
theorem op_clear {S : Hp} {N : Nat} {d : Nat} {h : Hp} {Q : Option AV → Hp → Prop} (hI : gI S h N) (hN : N ≤ 512) (hq : ∀ h1, frm S h1 → two S (d + 11) 86 [.inr (.inr 14)] h1 none (N + 1) → Q none h1) : wpM (d + 11) 14 [.inr (.inr 0)] h Q := by
  have ho := hI.out
  have hps : -1 ≤ ga h 1 4 ∧ ga h 1 4 < 64 := by
    rcases hI.cases hN with ⟨b, hb, hc, -⟩ | ⟨n, H, M, ll, hn, hH, hC, hR, hg, hk, hG, -⟩
    · exact hc.2.2.2
    · rw [hC.1.2.2.2.2.1]; exact hg.1.1.ps
  refine wpM_le (d := 3) (by omega) (w_clear ho.1 (fun h1 s1 e1 e2 => hq h1 (hI.2.oC (offC.sm s1 (by decide))) ?_))
  intro Q2 hq2
  refine wpM_le (d := 2) (by omega) (w_mClear (fun h2 s2 b1 b2 => hq2 h2 ?_))
  have x : offM h1 h2 := ⟨fun p hp j => s2.2 p (by simp only [List.mem_cons, List.not_mem_nil, or_false, not_or]; omega) j, fun p _ j => by show h2.2 p j = h1.2 p j; rw [s2.1]⟩
  refine ⟨Or.inl ⟨fun _ => 0, ⟨fun s _ _ => Or.inl rfl, fun s _ => rfl⟩, ?_, b2, b1⟩, (hI.2.oC (offC.sm s1 (by decide))).oM x⟩
  refine clsO.of x ⟨e2, e1, fun j hj => ?_, ?_⟩
  · rw [s1.at (by decide)]; exact ho.2 j hj
  · rw [s1.at (by decide)]; exact hps
theorem cl_put {b : Int → Int} {sq p : Int} (hb : clOk b ∧ out0 b) (hp : putC sq p) : clOk (updB b sq p) ∧ out0 (updB b sq p) := by
  constructor
  · intro s h1 h2
    unfold updB
    split
    · exact hp.2
    · exact hb.1 s h1 h2
  · intro s hs
    have := hp.1
    rw [updB_ne (by omega)]
    exact hb.2 s hs
theorem op_put {S : Hp} {N : Nat} {sq p : Int} {d : Nat} {h : Hp} {Q : Option AV → Hp → Prop} (hI : gI S h N) (hN : N ≤ 512) (i1 : inR sq) (i2 : inR p) (hq : ∀ v h1, inR v → frm S h1 → two S (d + 11) 87 [.inr (.inr 14), .inl sq, .inl p] h1 (some (.inl v)) (N + 1) → Q (some (.inl v)) h1) : wpM (d + 11) 15 [.inr (.inr 0), .inl sq, .inl p] h Q := by
  rcases hI.cases hN with ⟨b, hb, hc, hr⟩ | ⟨n, H, M, ll, hn, hH, hC, hR, hg, hk, hG, hG2⟩
  · refine wpM_le (d := 2) (by omega) (w_put hc.1 (Or.inl rfl) i1 i2 (fun hno => hq _ _ (by unfold inR; omega) hI.2 ?_) (fun hyes => hq _ _ (by unfold inR; omega) (hI.2.sa (by decide)) ?_))
    · intro Q2 hq2
      exact wpM_le (d := 1) (by omega) (w_mPut hr.1 (Or.inl rfl) i1 i2 (fun _ => hq2 _ hI.up) (fun z => absurd z hno))
    · intro Q2 hq2
      have e14 : ga (sa h 3 sq p) 14 4 = 0 := by rw [ga_ne (by decide)]; exact hr.1
      refine wpM_le (d := 1) (by omega) (w_mPut e14 (Or.inl rfl) i1 i2 (fun z => absurd hyes z) (fun _ => hq2 _ ⟨Or.inl ⟨updB b sq p, cl_put hb hyes.2, ⟨?_, ?_, ?_, ?_⟩, ?_, ?_⟩, (hI.2.sa (by decide)).sa (by decide)⟩))
      · rw [ga_ne (by decide), ga_ne (by decide)]; exact hc.1
      · rw [show ga (sa (sa h 3 sq p) 15 sq p) 3 = ga (sa h 3 sq p) 3 from funext fun j => ga_ne (by decide), ga_upd, hc.2.1]
      · intro j hj
        rw [ga_ne (by decide), ga_ne (by decide)]; exact hc.2.2.1 j hj
      · rw [ga_ne (by decide), ga_ne (by decide)]; exact hc.2.2.2
      · rw [ga_ne (by decide)]; exact e14
      · refine bAt_sa (fun s h1 h2 => ?_) hyes.2.1 (by omega)
        rw [ga_ne (by decide)]; exact hr.2 s h1 h2
  · refine wpM_le (d := 2) (by omega) (w_put hC.2.1 (Or.inr rfl) i1 i2 (fun hno => hq _ _ (by unfold inR; omega) hI.2 ?_) (fun hyes => by have := hyes.1; omega))
    intro Q2 hq2
    exact wpM_le (d := 1) (by omega) (w_mPut hR.2.1 (Or.inr rfl) i1 i2 (fun _ => hq2 _ hI.up) (fun z => absurd z hno))
theorem op_start {S : Hp} {N : Nat} {sd r ps : Int} {d : Nat} {h : Hp} {Q : Option AV → Hp → Prop} (hI : gI S h N) (hN : N ≤ 512) (i1 : inR sd) (i2 : inR r) (i3 : inR ps) (hq : ∀ v h1, inR v → frm S h1 → two S (d + 11) 88 [.inr (.inr 14), .inl sd, .inl r, .inl ps] h1 (some (.inl v)) (N + 1) → Q (some (.inl v)) h1) : wpM (d + 11) 17 [.inr (.inr 0), .inl sd, .inl r, .inl ps] h Q := by
  rcases hI.cases hN with ⟨b, hb, hc, hr⟩ | ⟨n, H, M, ll, hn, hH, hC, hR, hg, hk, hG, hG2⟩
  · have toG : stG 0 sd r ps → fltA b sd r ps = 0 → gp b sd r ps := fun hs hf => flt_gp hb.1 hb.2 hs.2.1 hs.2.2.1 hs.2.2.2 (by rw [← flt_same hb.1.bd hs.2.1]; exact hf)
    refine wpM_le (d := 7) (by omega) (w_start2 hc.2.1 hb.1.bd hc.1 (Or.inl rfl) i1 i2 i3 (fun hs hf => gp_fn (toG hs hf).1 (kg_of hb.1.bd (toG hs hf).1.m0 (toG hs hf).1.m1)) (fun hno => hq _ _ (by unfold inR; omega) hI.2 ?_) (fun hs hf => hq _ _ (by unfold inR fltA; (repeat' split) <;> omega) hI.2 ?_) (fun hs hf h1 ll a1 a2 a3 a4 a5 a6 a7 a8 => hq _ _ (by unfold inR; omega) (hI.2.oC (offC.pt a1 (by decide) (by decide))) ?_))
    · intro Q2 hq2
      exact w_mStart hr.2 hb.1.bd hr.1 (Or.inl rfl) i1 i2 i3 (fun _ => hq2 _ hI.up) (fun z => absurd z hno) (fun z => absurd z hno)
    · intro Q2 hq2
      rw [flt_same hb.1.bd hs.2.1] at hf hq2
      exact w_mStart hr.2 hb.1.bd hr.1 (Or.inl rfl) i1 i2 i3 (fun z => absurd hs z) (fun _ _ => hq2 _ hI.up) (fun _ z => absurd z hf)
    · intro Q2 hq2
      obtain ⟨hp, hcl⟩ := begin_new (toG hs hf) hc.2.2.1 a2 a3 a4 a5 a6 a7 a8
      have x : offC h h1 := offC.pt a1 (by decide) (by decide)
      have hr1 := refO.of x hr
      rw [flt_same hb.1.bd hs.2.1] at hf
      refine w_mStart hr1.2 hb.1.bd hr1.1 (Or.inl rfl) i1 i2 i3 (fun z => absurd hs z) (fun _ z => absurd hf z) (fun _ _ h2 x2 b1 b2 b3 b4 b5 b6 => hq2 h2 ?_)
      exact ⟨Or.inr ⟨0, _, _, ll, by omega, his_new hp rfl, hcl.of x2, begin_ref b1 b2 b3 b4 b5 b6⟩, (hI.2.oC x).oM x2⟩
  · have no : ¬ stG 1 sd r ps := fun z => by have := z.1; omega
    refine wpM_le (d := 7) (by omega) (w_start2 hC.1.1 hg.1.1.bd hC.2.1 (Or.inr rfl) i1 i2 i3 (fun z => absurd z no) (fun _ => hq _ _ (by unfold inR; omega) hI.2 ?_) (fun z => absurd z no) (fun z => absurd z no))
    intro Q2 hq2
    exact w_mStart hR.1.1 hg.1.1.bd hR.2.1 (Or.inr rfl) i1 i2 i3 (fun _ => hq2 _ hI.up) (fun z => absurd z no) (fun z => absurd z no)
theorem ver_eq {h : Hp} {n : Nat} {H : Nat → Ps} {M : Nat → Int} {ll : List Int} (hH : hisOk n H M) (hC : clsI h n H M ll) (hR : refI h n H) : verA (pB (H n)) (pK (H n)) (pS (H n)) (pC (H n)) ll (tmC h n (n + 1)) = verM (pB (H n)) (pS (H n)) (pR (H n)) (pP (H n)) (pC (H n)) (tmM h n (n + 1)) := by
  have hg := (hH.1 n (Nat.le_refl _)).1
  rw [tm_same hH hC hR (n + 1) (Nat.le_refl _), ver_same hg.1 hg.2 hC.2.2.2.2.1]
theorem code_in {b : Int → Int} {sd r ps f t q : Int} {ll : List Int} (hl : lwIs b sd r ps ll) : ((((0 ≤ f ∧ f < 64) ∧ (0 ≤ t ∧ t < 64) ∧ (0 ≤ q ∧ q ≤ 5)) ∧ (512 * f + 8 * t + q) ∈ ll) ↔ ((0 ≤ f ∧ f < 64) ∧ (0 ≤ t ∧ t < 64) ∧ lawS b sd r ps f t q)) := by
  constructor
  · rintro ⟨⟨h1, h2, h3⟩, h4⟩
    have := ((hl.2 _).mp h4).2
    unfold lawC at this
    rw [show (512 * f + 8 * t + q) / 512 = f by omega, show (512 * f + 8 * t + q) / 8 % 64 = t by omega, show (512 * f + 8 * t + q) % 8 = q by omega] at this
    exact ⟨h1, h2, this⟩
  · rintro ⟨h1, h2, h3⟩
    have hq := law_q h3
    refine ⟨⟨h1, h2, by omega⟩, (hl.2 _).mpr ⟨by omega, ?_⟩⟩
    unfold lawC
    rw [show (512 * f + 8 * t + q) / 512 = f by omega, show (512 * f + 8 * t + q) / 8 % 64 = t by omega, show (512 * f + 8 * t + q) % 8 = q by omega]
    exact h3
theorem op_move {S : Hp} {N : Nat} {f t q : Int} {d : Nat} {h : Hp} {Q : Option AV → Hp → Prop} (hI : gI S h N) (hN : N < 512) (i1 : inR f) (i2 : inR t) (i3 : inR q) (hq : ∀ v h1, inR v → frm S h1 → two S (d + 11) 93 [.inr (.inr 14), .inl f, .inl t, .inl q] h1 (some (.inl v)) (N + 1) → Q (some (.inl v)) h1) : wpM (d + 11) 19 [.inr (.inr 0), .inl f, .inl t, .inl q] h Q := by
  rcases hI.cases (by omega) with ⟨b, hb, hc, hr⟩ | ⟨n, H, M, ll, hn, hH, hC, hR, hg, hk, hG, hG2⟩
  · refine wpM_le (d := 1) (by omega) (w_move0 hc.1 (hq _ _ (by unfold inR; omega) hI.2 ?_))
    intro Q2 hq2
    exact wpM_le (d := 1) (by omega) (w_mMove0 hr.1 (hq2 _ hI.up))
  · have hve := ver_eq hH hC hR
    have hcd := code_in (f := f) (t := t) (q := q) hC.2.2.2.2.1
    have stay : ∀ h', low h h' 0 → gI S h' (N + 1) := fun h' x => ⟨Or.inr ⟨n, H, M, ll, by omega, hH, hC.of (offM.lo x), hR.lo x⟩, hI.2.oM (offM.lo x)⟩
    refine wpM_le (d := 6) (by omega) (w_move hG (by omega) (by omega) i1 i2 i3 (hN_of hg (by omega) hC.2.2.2.2.1) (fun hv => hq _ _ (by unfold inR; omega) hI.2 ?_) (fun hv hno => hq _ _ (by unfold inR; omega) hI.2 ?_) (fun hv hyes h1 ll2 x c1 c2 c3 c4 c5 c6 c7 c8 c9 => hq _ _ (by unfold inR; omega) (hI.2.oC (offC.pt x (by decide) (by decide))) ?_))
    · intro Q2 hq2
      rw [hve] at hv
      exact wpM_le (d := 10) (by omega) (w_mMove hG2 (by omega) (by omega) i1 i2 i3 (fun h' x _ => hq2 _ (stay h' x)) (fun _ _ z => absurd z hv) (fun _ z => absurd z hv))
    · intro Q2 hq2
      rw [hve] at hv
      exact wpM_le (d := 10) (by omega) (w_mMove hG2 (by omega) (by omega) i1 i2 i3 (fun _ _ z => absurd hv z) (fun h' x _ _ => hq2 _ (stay h' x)) (fun _ _ z => absurd (hcd.mpr z) hno))
    · intro Q2 hq2
      rw [hve] at hv
      obtain ⟨hf, ht, hlaw⟩ := hcd.mp hyes
      have hq5 : 0 ≤ q ∧ q ≤ 5 := hyes.1.2.2
      have ex1 : (512 * f + 8 * t + q) / 512 = f := by omega
      have ex2 : (512 * f + 8 * t + q) / 8 % 64 = t := by omega
      have ex3 : (512 * f + 8 * t + q) % 8 = q := by omega
      have hpl : pLw (H n) (512 * f + 8 * t + q) := (hC.2.2.2.2.1.2 _).mp hyes.2
      have hnx : nxP (H n) (512 * f + 8 * t + q) = (plB (pB (H n)) (pS (H n)) (pP (H n)) f t q, mkK (pB (H n)) (pS (H n)) f t (pK (H n)), 1 - pS (H n), kpA (kpA (pR (H n)) f) t, plP (pB (H n)) (pS (H n)) f t, qckM (pB (H n)) (pC (H n)) f t) := by
        unfold nxP plX
        rw [ex1, ex2, ex3]
      have hpn := hg.nx hpl
      rw [mk_pl hg.1.1 hf ht hlaw.1, lr_kp hg.1.1.rg hf ht, mk_pass hg.1.1 hf ht hlaw.1] at c2 c5 c8
      rw [mk_ck] at c2
      rw [hnx] at hpn
      have hlw := lg_lw hpn.1 hpn.2 c5
      have htp := tp_same hpn.1 hlw
      have hcl : clsI h1 (n + 1) (addH H n (512 * f + 8 * t + q)) (addM M n (512 * f + 8 * t + q)) ll2 := by
        unfold clsI
        rw [addH_n, hnx]
        refine ⟨c2, ?_, by rw [c3]; omega, c4, hlw, fun i hi => ?_, fun i hi => ?_, fun j hj => ?_⟩
        · rw [x.at (by decide)]; exact hC.2.1
        · by_cases hin : i = n + 1
          · rw [hin, addH_n, hnx]
            have c8' := c8
            rw [show tpA (plB (pB (H n)) (pS (H n)) (pP (H n)) f t q) (plP (pB (H n)) (pS (H n)) f t) ll2 = tkA (plB (pB (H n)) (pS (H n)) (pP (H n)) f t q) (1 - pS (H n)) (kpA (kpA (pR (H n)) f) t) (plP (pB (H n)) (pS (H n)) f t) from htp] at c8'
            exact c8'
          · rw [addH_le (by omega)]
            obtain ⟨m1, m2⟩ := hC.2.2.2.2.2.1 i (by omega)
            refine ⟨?_, fun q' hq' => ?_⟩
            · rw [c1.1 i (by omega)]; exact m1
            · have := c1.2.1 (4 * i + q') (by omega)
              rw [show ((4 * i + q' : Nat) : Int) = 4 * (i : Int) + q' by omega] at this
              rw [this]; exact m2 q' hq'
        · by_cases hin : i = n
          · rw [hin, addM_n, addH_le (Nat.le_refl _), ex1, ex2]
            exact ⟨c6, c7⟩
          · rw [addM_lt (by omega), addH_le (by omega)]
            have := c1.2.2 i (by omega)
            rw [this.1, this.2]
            exact hC.2.2.2.2.2.2.1 i (by omega)
        · by_cases hjn : (j : Int) = (n : Int) + 1
          · have h1 := c8.1
            rw [show ((n + 1 : Nat) : Int) = (j : Int) by omega] at h1
            rw [h1]
            have h2 := tpA_in (b := plB (pB (H n)) (pS (H n)) (pP (H n)) f t q) (ll := ll2) hpn.1.1.ps
            have h3 := hpn.1.1.rg
            have h4 := hpn.1.1.sd
            have h3 : 0 ≤ kpA (kpA (pR (H n)) f) t ∧ kpA (kpA (pR (H n)) f) t ≤ 15 := h3
            have h4 : 0 ≤ 1 - pS (H n) ∧ 1 - pS (H n) ≤ 1 := h4
            have h2 : -1 ≤ tpA (plB (pB (H n)) (pS (H n)) (pP (H n)) f t q) (plP (pB (H n)) (pS (H n)) f t) ll2 ∧ tpA (plB (pB (H n)) (pS (H n)) (pP (H n)) f t q) (plP (pB (H n)) (pS (H n)) f t) ll2 < 64 := h2
            unfold mrk1 inR
            omega
          · rw [c9 j hjn]; exact hC.2.2.2.2.2.2.2 j hj
      have x1 : offC h h1 := offC.pt x (by decide) (by decide)
      have hR1 := hR.of x1
      have hG3 := hR1.G hH (by omega)
      have htm := tmM_of x1 (n := n) (n + 1)
      refine wpM_le (d := 10) (by omega) (w_mMove hG3 (by omega) (by omega) i1 i2 i3 (fun _ _ z => absurd (by rw [htm]; exact hv) z) (fun _ _ _ z => absurd (hcd.mp hyes) z) (fun h2 _ _ x2 k1 k2 k3 k4 k5 k6 => hq2 h2 ?_))
      refine ⟨Or.inr ⟨n + 1, _, _, ll2, by omega, his_add hH hpl, hcl.of x2, ?_⟩, (hI.2.oC x1).oM x2⟩
      unfold refI
      rw [addH_n, hnx, addH_le (Nat.zero_le _)]
      refine ⟨k2, ?_, by rw [k4]; omega, ?_, k5, fun i hi => ?_⟩
      · rw [k3 4 (by omega) (by omega)]; exact hR1.2.1
      · rw [k3 11 (by omega) (by omega)]; exact hR1.2.2.2.1
      · by_cases hin : i = n + 1
        · rw [hin, addH_n, hnx]; exact k6
        · rw [addH_le (by omega)]
          exact k1.kp (by omega) (hR1.2.2.2.2.2 i (by omega))
theorem op_back {S : Hp} {N : Nat} {d : Nat} {h : Hp} {Q : Option AV → Hp → Prop} (hI : gI S h N) (hN : N ≤ 512) (hq : ∀ v h1, inR v → frm S h1 → two S (d + 11) 99 [.inr (.inr 14)] h1 (some (.inl v)) (N + 1) → Q (some (.inl v)) h1) : wpM (d + 11) 21 [.inr (.inr 0)] h Q := by
  rcases hI.cases hN with ⟨b, hb, hc, hr⟩ | ⟨n, H, M, ll, hn, hH, hC, hR, hg, hk, hG, hG2⟩
  · refine wpM_le (d := 1) (by omega) (w_backOff hc.1 (hq _ _ (by unfold inR; omega) hI.2 ?_))
    intro Q2 hq2
    exact wpM_le (d := 1) (by omega) (w_mBackOff hr.1 (hq2 _ hI.up))
  · cases n with
    | zero =>
      refine wpM_le (d := 1) (by omega) (w_back0 hC.2.1 (Or.inr rfl) hC.2.2.1 (by unfold inR; omega) (Or.inr rfl) (hq _ _ (by unfold inR; omega) hI.2 ?_))
      intro Q2 hq2
      exact wpM_le (d := 1) (by omega) (w_mBack0 hR.2.1 (Or.inr rfl) hR.2.2.1 (by unfold inR; omega) (Or.inr rfl) (hq2 _ hI.up))
    | succ n =>
      obtain ⟨hpl, hst⟩ := hH.2.1 n (by omega)
      obtain ⟨hgn, hkn⟩ := hH.1 n (by omega)
      have hf : 0 ≤ M n / 512 ∧ M n / 512 < 64 := by have := hpl.1; omega
      have ht : 0 ≤ M n / 8 % 64 ∧ M n / 8 % 64 < 64 := by omega
      have hgo := gos_ok hgn.1.1 hgn.2 ⟨hpl.1, hpl.2.1⟩
      have hP := hC.1
      rw [hst] at hP
      have hP2 : psIs h (mkB (pB (H n)) (pS (H n)) (pP (H n)) (M n / 512) (M n / 8 % 64) (M n % 8)) (mkK (pB (H n)) (pS (H n)) (M n / 512) (M n / 8 % 64) (pK (H n))) (1 - pS (H n)) (kpA (kpA (pR (H n)) (M n / 512)) (M n / 8 % 64)) (plP (pB (H n)) (pS (H n)) (M n / 512) (M n / 8 % 64)) (qckM (pB (H n)) (pC (H n)) (M n / 512) (M n / 8 % 64)) := by
        rw [mk_pl hgn.1.1 hf ht hpl.2.1]; exact hP
      obtain ⟨u1, u2⟩ := hC.2.2.2.2.2.2.1 n (by omega)
      have hfn := gp_fn hgn.1.1 hgn.2
      refine wpM_le (d := 6) (by omega) (w_back (n := n) hC.2.1 (by rw [hC.2.2.1]; omega) (by omega) hP2 (hgn.1.psOk (ck := pC (H n)) (by omega)) hgo.2.1 hgo.2.2.1 (by rw [u1]; omega) u2 hfn (fun h1 ll2 s1 c1 c2 c3 c4 => hq _ _ (by unfold inR; omega) (hI.2.oC (offC.sm s1 (by decide))) ?_))
      have x1 : offC h h1 := offC.sm s1 (by decide)
      have hR1 := hR.of x1
      have hcl : clsI h1 n H M ll2 := by
        refine ⟨c1, ?_, c2, c3, lg_lw hgn.1 hgn.2 c4, fun i hi => ?_, fun i hi => ?_, fun j hj => ?_⟩
        · rw [s1.at (by decide)]; exact hC.2.1
        · obtain ⟨m1, m2⟩ := hC.2.2.2.2.2.1 i (by omega)
          refine ⟨by rw [s1.at (by decide)]; exact m1, fun q' hq' => ?_⟩
          show h1.2 12 _ = _
          rw [s1.1]; exact m2 q' hq'
        · rw [s1.at (by decide), s1.at (by decide)]; exact hC.2.2.2.2.2.2.1 i (by omega)
        · rw [s1.at (by decide)]; exact hC.2.2.2.2.2.2.2 j hj
      intro Q2 hq2
      have hs0 := (hH.1 0 (Nat.zero_le _)).1.1.1.sd
      refine wpM_le (d := 2) (by omega) (w_mBack (n := n) (sd := pS (H n)) (r := pR (H n)) (ps := pP (H n)) (ck := pC (H n)) (f0 := pS (H 0)) (B := pB (H n)) hR1.2.1 hgn.1.mOk (hR1.2.2.2.2.2 n (by omega)) (by rw [hR1.2.2.1]; omega) (by omega) hR1.2.2.2.1 hs0 (hH.2.2 n (by omega)) (by omega) (fun h2 s2 b1 b2 b3 b4 => hq2 h2 ?_))
      have x2 : offM h1 h2 := ⟨fun p hp j => s2.2 p (by simp only [List.mem_cons, List.not_mem_nil, or_false, not_or]; omega) j, fun p _ j => by show h2.2 p j = h1.2 p j; rw [s2.1]⟩
      refine ⟨Or.inr ⟨n, H, M, ll2, by omega, his_sub hH, hcl.of x2, b1, ?_, b3, ?_, b2, fun i hi => ?_⟩, (hI.2.oC x1).oM x2⟩
      · rw [b4 4 (by omega) (by omega)]; exact hR1.2.1
      · rw [b4 11 (by omega) (by omega)]; exact hR1.2.2.2.1
      · obtain ⟨k1, k2, k3, k4, k5⟩ := hR1.2.2.2.2.2 i (by omega)
        refine ⟨fun q' hq' => ?_, ?_, ?_, ?_, ?_⟩
        · show h2.2 19 _ = _
          rw [s2.1]; exact k1 q' hq'
        · rw [s2.at (by decide)]; exact k2
        · rw [s2.at (by decide)]; exact k3
        · rw [s2.at (by decide)]; exact k4
        · rw [s2.at (by decide)]; exact k5
