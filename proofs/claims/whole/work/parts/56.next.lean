/-! The position after a move is a position of a game. -/
theorem king_safe {b : Int → Int} {sd r ps f t q : Int} (hg : gp b sd r ps) (hf : 0 ≤ f ∧ f < 64) (ht : 0 ≤ t ∧ t < 64) (h : gosS b sd r ps f t q) : ¬ b t = 6 + 8 * (1 - sd) := by
  intro e
  have hsd := hg.1.sd
  have hit : hitS b f t → False := fun hh => hg.2 (hit_chk hg.1.bd (by omega) (hg.1.me (by omega)) ht e hf (by rw [show 1 - (1 - sd) = sd by omega]; exact h.1.1) hh)
  rcases h.2 with ⟨h1, -, hw⟩ | ⟨h1, -, hh | ⟨-, hh⟩⟩
  · unfold pwS at hw
    by_cases t1 : t = f + ahd sd
    · rw [if_pos t1] at hw; omega
    · rw [if_neg t1] at hw
      by_cases t2 : t = f + 2 * ahd sd
      · rw [if_pos t2] at hw; omega
      · rw [if_neg t2] at hw
        exact hit hw.1
  · exact hit hh
  · have := (cst_v hg.1 hh).2.2.1
    omega
theorem tak_v {b : Int → Int} {sd r ps f t q : Int} (hg : gp b sd r ps) (hf : 0 ≤ f ∧ f < 64) (ht : 0 ≤ t ∧ t < 64) (h : gosS b sd r ps f t q) : (0 ≤ takA b sd ps f t ∧ takA b sd ps f t < 64) ∧ (b (takA b sd ps f t) = 0 ∨ (ofS (b (takA b sd ps f t)) (1 - sd) ∧ 1 ≤ b (takA b sd ps f t) % 8 ∧ b (takA b sd ps f t) % 8 ≤ 5)) := by
  have hsd := hg.1.sd
  have hcl := hg.1.cl t ht.1 ht.2
  have hn := h.1.2
  have hk := king_safe hg hf ht h
  have pl : b t = 0 ∨ (ofS (b t) (1 - sd) ∧ 1 ≤ b t % 8 ∧ b t % 8 ≤ 5) := by
    by_cases h0 : b t = 0
    · exact Or.inl h0
    · right
      have h2 : ¬ b t / 8 = sd := fun z => hn ⟨h0, z⟩
      exact ⟨⟨h0, by omega⟩, by omega, by omega⟩
  rcases gos_knd hg.1 hf ht h with ⟨e1, e2, e3⟩ | ⟨⟨e1, e2, e3⟩, e4, e5, e6, e7⟩ | ⟨e1, e2⟩
  · rw [e1]; exact ⟨ht, pl⟩
  · have ha := ahd_v hsd
    rw [e3]
    refine ⟨by omega, Or.inr ⟨⟨by omega, by omega⟩, by omega, by omega⟩⟩
  · rw [(cst_tak hg.1 e1).1]; exact ⟨ht, pl⟩
theorem mvV_v {b : Int → Int} {sd r ps f t q : Int} (hg : gp0 b sd r ps) (hf : 0 ≤ f ∧ f < 64) (h : gosS b sd r ps f t q) : ofS (mvV b sd f q) sd ∧ mvV b sd f q = mvV b sd f q % 8 + 8 * sd ∧ ((q = 0 ∧ mvV b sd f q = b f) ∨ ((2 ≤ q ∧ q ≤ 5) ∧ mvV b sd f q = q + 8 * sd ∧ b f = 1 + 8 * sd)) ∧ 1 ≤ mvV b sd f q % 8 ∧ mvV b sd f q % 8 ≤ 6 := by
  have hv := of_v hg.cl hf h.1.1
  have hsd := hg.sd
  unfold mvV
  rcases gos_qq h with hq | hq
  · rw [if_neg (by omega)]
    exact ⟨h.1.1, hv.1, Or.inl ⟨hq, rfl⟩, hv.2⟩
  · rw [if_pos (by omega)]
    exact ⟨⟨by omega, by omega⟩, by omega, Or.inr ⟨by omega, rfl, by omega⟩, by omega, by omega⟩
theorem men_next {b : Int → Int} {sd r ps f t q c : Int} (hg : gp b sd r ps) (hf : 0 ≤ f ∧ f < 64) (ht : 0 ≤ t ∧ t < 64) (h : gosS b sd r ps f t q) (hc : 0 ≤ c ∧ c ≤ 1) : menP (plB b sd ps f t q) c := by
  have hv := of_v hg.1.cl hf h.1.1
  have hm := mvV_v hg.1 hf h
  have htk := (tak_v hg hf ht h).2
  have h0 := hg.1.me hc
  constructor
  · have e : sumF (kiF (plB b sd ps f t q) c) 64 = _ := sum_play (F := fun x => dec (ofS x c ∧ x % 8 = 6)) hg.1 hf ht h
    rw [e]
    have e1 : sumF (fun s => dec (ofS (b s) c ∧ b s % 8 = 6)) 64 = 1 := h0.1
    have e2 : dec (ofS 0 c ∧ (0 : Int) % 8 = 6) = 0 := dec_n (fun z => z.1.1 rfl)
    have e3 : dec (ofS (b (takA b sd ps f t)) c ∧ b (takA b sd ps f t) % 8 = 6) = 0 := dec_n (fun z => by
      rcases htk with k | k
      · exact z.1.1 k
      · have := z.2; omega)
    have e4 : dec (ofS (mvV b sd f q) c ∧ mvV b sd f q % 8 = 6) = dec (ofS (b f) c ∧ b f % 8 = 6) := by
      rcases hm.2.2.1 with k | k
      · rw [k.2]
      · rw [dec_n (fun z => by have := z.2; omega), dec_n (fun z => by have := z.2; omega)]
    show sumF (fun s => dec (ofS (b s) c ∧ b s % 8 = 6)) 64 + dec (ofS (mvV b sd f q) c ∧ mvV b sd f q % 8 = 6) + dec (ofS 0 c ∧ (0 : Int) % 8 = 6) - dec (ofS (b f) c ∧ b f % 8 = 6) - dec (ofS (b (takA b sd ps f t)) c ∧ b (takA b sd ps f t) % 8 = 6) = 1
    omega
  · have e : sumF (meF (plB b sd ps f t q) c) 64 = _ := sum_play (F := fun x => dec (ofS x c)) hg.1 hf ht h
    rw [e]
    have e1 : sumF (fun s => dec (ofS (b s) c)) 64 ≤ 16 := h0.2
    have e2 : dec (ofS 0 c) = 0 := dec_n (fun z => z.1 rfl)
    have e3 := dec_nn (ofS (b (takA b sd ps f t)) c)
    have e4 : dec (ofS (mvV b sd f q) c) = dec (ofS (b f) c) := dec_cg (by
      constructor
      · intro z; have z2 : c = sd := by have := z.2; omega
        rw [z2]; exact h.1.1
      · intro z; have z2 : c = sd := by have := z.2; omega
        rw [z2]; exact hm.1)
    show sumF (fun s => dec (ofS (b s) c)) 64 + dec (ofS (mvV b sd f q) c) + dec (ofS 0 c) - dec (ofS (b f) c) - dec (ofS (b (takA b sd ps f t)) c) ≤ 16
    omega
theorem cl_next {b : Int → Int} {sd r ps f t q : Int} (hg : gp0 b sd r ps) (hf : 0 ≤ f ∧ f < 64) (ht : 0 ≤ t ∧ t < 64) (h : gosS b sd r ps f t q) : clOk (plB b sd ps f t q) := by
  intro s h1 h2
  have hsd := hg.sd
  have hm := mvV_v hg hf h
  have hc := hg.cl s h1 h2
  rcases pl_any hg hf ht h s with ⟨-, e⟩ | ⟨-, e⟩ | ⟨-, -, e, -⟩ | ⟨-, -, e, -⟩ | ⟨-, -, e, -⟩ | ⟨-, e⟩
  · rw [e]; left; rfl
  · rw [e]; omega
  · rw [e]; left; rfl
  · rw [e]; left; rfl
  · rw [e]; omega
  · rw [e]; exact hc
theorem out_next {b : Int → Int} {sd r ps f t q : Int} (hg : gp0 b sd r ps) (hf : 0 ≤ f ∧ f < 64) (ht : 0 ≤ t ∧ t < 64) (h : gosS b sd r ps f t q) : out0 (plB b sd ps f t q) := by
  intro s hs
  have hh := hm_v hg.sd
  rcases pl_any hg hf ht h s with ⟨e, -⟩ | ⟨e, -⟩ | ⟨-, -, e, -⟩ | ⟨-, -, e, -⟩ | ⟨c, e, -⟩ | ⟨-, e⟩
  · omega
  · omega
  · exact e
  · exact e
  · have := cst_v hg c; omega
  · rw [e]; exact hg.ou s hs
theorem pw_t {b : Int → Int} {sd r ps f t q : Int} (hg : gp0 b sd r ps) (hf : 0 ≤ f ∧ f < 64) (ht : 0 ≤ t ∧ t < 64) (h : gosS b sd r ps f t q) (h1 : b f % 8 = 1) : (sd = 0 ∧ 16 ≤ t) ∨ (sd = 1 ∧ t < 48) := by
  have ha := ahd_v hg.sd
  have hr := pwn_rank hg.pw hf h1
  have hv := of_v hg.cl hf h.1.1
  rcases h.2 with ⟨-, -, hw⟩ | ⟨h2, -⟩
  · unfold pwS at hw
    by_cases t1 : t = f + ahd sd
    · omega
    · rw [if_neg t1] at hw
      by_cases t2 : t = f + 2 * ahd sd
      · omega
      · rw [if_neg t2, pw_hit hg.sd (by omega)] at hw
        have := hw.1.2
        rcases ha with ha | ha
        · rw [if_pos ha.1] at this; omega
        · rw [if_neg (by omega)] at this; omega
  · exact absurd h1 h2
theorem pwn_next {b : Int → Int} {sd r ps f t q : Int} (hg : gp0 b sd r ps) (hf : 0 ≤ f ∧ f < 64) (ht : 0 ≤ t ∧ t < 64) (h : gosS b sd r ps f t q) : ¬ pwnP (plB b sd ps f t q) := by
  have hm := mvV_v hg hf h
  have hsd := hg.sd
  have key : ∀ s, 0 ≤ s ∧ s < 64 → plB b sd ps f t q s % 8 = 1 → 8 ≤ s ∧ s < 56 := by
    intro s hs h1
    rcases pl_any hg hf ht h s with ⟨-, e⟩ | ⟨es, e⟩ | ⟨-, -, e, -⟩ | ⟨-, -, e, -⟩ | ⟨-, -, e, -⟩ | ⟨-, e⟩
    · omega
    · rw [es]
      have hb1 : b f % 8 = 1 ∧ q = 0 := by omega
      have hpt := pw_t hg hf ht h hb1.1
      rcases h.2 with ⟨-, hp, -⟩ | ⟨h2, -⟩
      · unfold prS at hp
        have hn : ¬ t / 8 = (if sd = 0 then 7 else 0) := fun z => by rw [if_pos z] at hp; omega
        rcases hpt with k | k
        · rw [if_pos k.1] at hn; omega
        · rw [if_neg (by omega)] at hn; omega
      · exact absurd hb1.1 h2
    · omega
    · omega
    · omega
    · rw [e] at h1
      exact pwn_rank hg.pw hs h1
  rintro ⟨f2, hf2, z | z⟩
  · have := key f2 (by omega) z; omega
  · have := key (56 + f2) (by omega) z; omega
/-! rights -/
theorem lost_L : ∀ s : Nat, s < 64 → lostA s ∈ ([0, 1, 2, 3, 4, 8, 12] : List Int) := by decide +kernel
theorem kp_L : ∀ r : Nat, r < 16 → ∀ L ∈ ([0, 1, 2, 3, 4, 8, 12] : List Int), (0 ≤ aand (r : Int) (axor L (-1)) ∧ aand (r : Int) (axor L (-1)) ≤ 15) ∧ ∀ n : Nat, n < 4 → ¬ aand (aand (r : Int) (axor L (-1))) (1 * 2 ^ n) = 0 → ¬ aand (r : Int) (1 * 2 ^ n) = 0 ∧ aand L (1 * 2 ^ n) = 0 := by decide +kernel
theorem lost_h : ∀ s : Nat, s < 64 → ∀ n : Nat, n < 4 → aand (lostA s) (1 * 2 ^ n) = 0 → ¬ (s : Int) = tbl 24 n ∧ ¬ (s : Int) = tbl 25 n := by decide +kernel
theorem kp_i {r s : Int} (hr : 0 ≤ r ∧ r ≤ 15) (hs : 0 ≤ s ∧ s < 64) : 0 ≤ kpA r s ∧ kpA r s ≤ 15 := by
  obtain ⟨n, rfl⟩ := Int.eq_ofNat_of_zero_le hr.1
  obtain ⟨m, rfl⟩ := Int.eq_ofNat_of_zero_le hs.1
  exact (kp_L n (by omega) _ (lost_L m (by omega))).1
theorem kp_bit {r s : Int} {n : Nat} (hr : 0 ≤ r ∧ r ≤ 15) (hs : 0 ≤ s ∧ s < 64) (hn : n < 4) (h : ¬ aand (kpA r s) (1 * 2 ^ n) = 0) : ¬ aand r (1 * 2 ^ n) = 0 ∧ ¬ s = tbl 24 n ∧ ¬ s = tbl 25 n := by
  obtain ⟨m, rfl⟩ := Int.eq_ofNat_of_zero_le hr.1
  obtain ⟨u, rfl⟩ := Int.eq_ofNat_of_zero_le hs.1
  have h1 := (kp_L m (by omega) _ (lost_L u (by omega))).2 n hn h
  exact ⟨h1.1, lost_h u (by omega) n hn h1.2⟩
theorem home_b : ∀ n : Nat, n < 4 → (tbl 24 n = 4 ∨ tbl 24 n = 60) ∧ (tbl 25 n = 7 ∨ tbl 25 n = 0 ∨ tbl 25 n = 63 ∨ tbl 25 n = 56) ∧ (n < 2 → tbl 24 n = 4 ∧ (tbl 25 n = 7 ∨ tbl 25 n = 0)) ∧ (2 ≤ n → tbl 24 n = 60 ∧ (tbl 25 n = 63 ∨ tbl 25 n = 56)) := by decide +kernel
theorem bak_next {b : Int → Int} {sd r ps f t q : Int} (hg : gp0 b sd r ps) (hf : 0 ≤ f ∧ f < 64) (ht : 0 ≤ t ∧ t < 64) (h : gosS b sd r ps f t q) : ∀ n : Nat, n < 4 → bakP (plB b sd ps f t q) (kpA (kpA r f) t) n := by
  intro n hn
  by_cases hb : aand (kpA (kpA r f) t) (1 * 2 ^ n) = 0
  · exact Or.inl hb
  · right
    have h1 := kp_bit (kp_i hg.rg hf) ht hn hb
    have h2 := kp_bit hg.rg hf hn h1.1
    rcases hg.bk n hn with z | z
    · exact absurd z h2.1
    · have hhb := home_b n hn
      have hh := hm_v hg.sd
      have key : ∀ s, (s = tbl 24 n ∨ s = tbl 25 n) → b s = 6 + 8 * ((n : Int) / 2) ∨ b s = 4 + 8 * ((n : Int) / 2) → plB b sd ps f t q s = b s := by
        intro s hs hb
        rcases pl_any hg hf ht h s with ⟨e, -⟩ | ⟨e, -⟩ | ⟨-, -, -, e, -⟩ | ⟨c, e, -, e2⟩ | ⟨c, e, -, e2⟩ | ⟨-, e⟩
        · rcases hs with hs | hs
          · exact absurd (e ▸ hs) h2.2.1
          · exact absurd (e ▸ hs) h2.2.2
        · rcases hs with hs | hs
          · exact absurd (e ▸ hs) h1.2.1
          · exact absurd (e ▸ hs) h1.2.2
        · omega
        · exfalso
          have hv := cst_v hg c
          have hsd := hg.sd
          by_cases hn2 : n < 2
          · have := hhb.2.2.1 hn2
            have := h2.2.1
            omega
          · have := hhb.2.2.2 (by omega)
            have := h2.2.1
            omega
        · omega
        · exact e
      exact ⟨by rw [key _ (Or.inl rfl) (Or.inl z.1)]; exact z.1, by rw [key _ (Or.inr rfl) (Or.inr z.2)]; exact z.2⟩
/-! the class's way of dropping rights -/
def c4 (r : Int) (a0 a1 a2 a3 : Bool) : Int := cond a3 (clr (cond a2 (clr (cond a1 (clr (cond a0 (clr r 0) r) 1) (cond a0 (clr r 0) r)) 2) (cond a1 (clr (cond a0 (clr r 0) r) 1) (cond a0 (clr r 0) r))) 3) (cond a2 (clr (cond a1 (clr (cond a0 (clr r 0) r) 1) (cond a0 (clr r 0) r)) 2) (cond a1 (clr (cond a0 (clr r 0) r) 1) (cond a0 (clr r 0) r)))
def hB (s : Int) (n : Nat) : Bool := decide (s = tbl 24 n) || decide (s = tbl 25 n)
theorem c4_or : ∀ r : Nat, r < 16 → ∀ a0 a1 a2 a3 b0 b1 b2 b3 : Bool, c4 (c4 r a0 a1 a2 a3) b0 b1 b2 b3 = c4 r (a0 || b0) (a1 || b1) (a2 || b2) (a3 || b3) := by decide +kernel
theorem c4_kp : ∀ r : Nat, r < 16 → ∀ s : Nat, s < 64 → kpA (r : Int) s = c4 r (hB s 0) (hB s 1) (hB s 2) (hB s 3) := by decide +kernel
theorem tch_b {f t : Int} {n : Nat} : (dec (tch f t n) = 1) ↔ (hB f n || hB t n) = true := by
  unfold hB
  simp only [Bool.or_eq_true, decide_eq_true_eq]
  constructor
  · intro h
    have := of_dec h
    unfold tch at this
    omega
  · intro h
    refine dec_p ?_
    unfold tch
    omega
theorem if_cond {p : Prop} [Decidable p] {c : Bool} {x y : Int} (h : p ↔ c = true) : (if p then x else y) = cond c x y := by
  cases c
  · rw [if_neg (fun z => by have := h.mp z; exact absurd this (by decide))]; rfl
  · rw [if_pos (h.mpr rfl)]; rfl
theorem lr_c4 {r f t : Int} : lrR r f t 4 = c4 r (hB f 0 || hB t 0) (hB f 1 || hB t 1) (hB f 2 || hB t 2) (hB f 3 || hB t 3) := by
  unfold lrR lrR lrR lrR lrR
  rw [if_cond (tch_b (n := 0)), if_cond (tch_b (n := 1)), if_cond (tch_b (n := 2)), if_cond (tch_b (n := 3))]
  rfl
theorem lr_kp {r f t : Int} (hr : 0 ≤ r ∧ r ≤ 15) (hf : 0 ≤ f ∧ f < 64) (ht : 0 ≤ t ∧ t < 64) : lrR r f t 4 = kpA (kpA r f) t := by
  rw [lr_c4]
  have hk := kp_i hr hf
  generalize hw : kpA r f = w at *
  obtain ⟨n, rfl⟩ := Int.eq_ofNat_of_zero_le hr.1
  obtain ⟨m, rfl⟩ := Int.eq_ofNat_of_zero_le hf.1
  obtain ⟨u, rfl⟩ := Int.eq_ofNat_of_zero_le ht.1
  obtain ⟨v, rfl⟩ := Int.eq_ofNat_of_zero_le hk.1
  have e1 := c4_kp v (by omega) u (by omega)
  have e2 := c4_kp n (by omega) m (by omega)
  rw [e1, ← hw, e2, c4_or n (by omega)]
/-! passing, the clock, the position -/
theorem mk_pass {b : Int → Int} {sd r ps f t q : Int} (hg : gp0 b sd r ps) (hf : 0 ≤ f ∧ f < 64) (ht : 0 ≤ t ∧ t < 64) (h : gosS b sd r ps f t q) : mkP b f t = plP b sd f t := by
  unfold mkP plP
  by_cases hc : b f % 8 = 1 ∧ (t - f = 16 ∨ t - f = -16)
  · rw [if_pos hc, if_pos hc]
    have ha := ahd_v hg.sd
    have hv := of_v hg.cl hf h.1.1
    rcases h.2 with ⟨-, -, hw⟩ | ⟨h2, -⟩
    · unfold pwS at hw
      by_cases t1 : t = f + ahd sd
      · omega
      · rw [if_neg t1] at hw
        by_cases t2 : t = f + 2 * ahd sd
        · omega
        · rw [if_neg t2, pw_hit hg.sd (by omega)] at hw
          have := hw.1.1
          omega
    · exact absurd hc.1 h2
  · rw [if_neg hc, if_neg hc]
theorem pas_next {b : Int → Int} {sd r ps f t q : Int} (hg : gp0 b sd r ps) (hf : 0 ≤ f ∧ f < 64) (ht : 0 ≤ t ∧ t < 64) (h : gosS b sd r ps f t q) : (-1 ≤ plP b sd f t ∧ plP b sd f t < 64) ∧ (plP b sd f t = -1 ∨ pasP (plB b sd ps f t q) (1 - sd) (plP b sd f t)) := by
  unfold plP
  by_cases hc : b f % 8 = 1 ∧ (t - f = 16 ∨ t - f = -16)
  · rw [if_pos hc]
    have ha := ahd_v hg.sd
    have hsd := hg.sd
    have ha2 := ahd_v (sd := 1 - sd) (by omega)
    have hv := of_v hg.cl hf h.1.1
    have hm := mvV_v hg hf h
    have hne := gos_ne h
    have hw : t = f + 2 * ahd sd ∧ f / 8 = (if sd = 0 then 1 else 6) ∧ b t = 0 ∧ b (f + ahd sd) = 0 ∧ prS sd t q := by
      rcases h.2 with ⟨-, hp, hw⟩ | ⟨h2, -⟩
      · unfold pwS at hw
        by_cases t1 : t = f + ahd sd
        · omega
        · rw [if_neg t1] at hw
          by_cases t2 : t = f + 2 * ahd sd
          · rw [if_pos t2] at hw
            exact ⟨t2, hw.1, hw.2.1, hw.2.2, hp⟩
          · rw [if_neg t2, pw_hit hg.sd (by omega)] at hw
            have := hw.1.1
            omega
      · exact absurd hc.1 h2
    obtain ⟨w1, w2, w3, w4, w5⟩ := hw
    have hq0 : q = 0 := by
      unfold prS at w5
      rw [if_neg (by
        rcases ha with ha | ha
        · rw [if_pos ha.1] at *; omega
        · rw [if_neg (by omega)] at *; omega)] at w5
      exact w5
    have hrk : f + ahd sd = (f + ahd sd) / 8 * 8 + f % 8 := by omega
    refine ⟨by omega, Or.inr ⟨?_, ⟨?_, ?_⟩, ?_⟩⟩
    · rcases ha with ha | ha
      · rw [if_pos ha.1] at w2
        rw [if_neg (by omega)]; omega
      · rw [if_neg (by omega)] at w2
        rw [if_pos (by omega)]; omega
    · rcases pl_any hg hf ht h (f + ahd sd) with ⟨-, e⟩ | ⟨e, -⟩ | ⟨-, -, e, -⟩ | ⟨-, -, e, -⟩ | ⟨c, -, -, -⟩ | ⟨-, e⟩
      · exact e
      · omega
      · exact e
      · exact e
      · have := cst_tak hg c; omega
      · rw [e]; exact w4
    · rw [show f + ahd sd + ahd (1 - sd) = f by omega]
      exact pl_f
    · rw [show f + ahd sd - ahd (1 - sd) = t by omega, pl_t hne]
      omega
  · rw [if_neg hc]
    exact ⟨by omega, Or.inl rfl⟩
theorem gp0_next {b : Int → Int} {sd r ps f t q : Int} (hg : gp b sd r ps) (hf : 0 ≤ f ∧ f < 64) (ht : 0 ≤ t ∧ t < 64) (h : gosS b sd r ps f t q) : gp0 (plB b sd ps f t q) (1 - sd) (kpA (kpA r f) t) (plP b sd f t) :=
  ⟨cl_next hg.1 hf ht h, out_next hg.1 hf ht h, by have := hg.1.sd; omega, kp_i (kp_i hg.1.rg hf) ht, (pas_next hg.1 hf ht h).1, ⟨men_next hg hf ht h (by omega), men_next hg hf ht h (by omega)⟩, pwn_next hg.1 hf ht h, bak_next hg.1 hf ht h, (pas_next hg.1 hf ht h).2⟩
theorem gp_next {b : Int → Int} {sd r ps f t q : Int} (hg : gp b sd r ps) (hf : 0 ≤ f ∧ f < 64) (ht : 0 ≤ t ∧ t < 64) (h : lawS b sd r ps f t q) : gp (plB b sd ps f t q) (1 - sd) (kpA (kpA r f) t) (plP b sd f t) :=
  ⟨gp0_next hg hf ht h.1, by rw [show 1 - (1 - sd) = sd by omega]; exact h.2⟩
theorem kg_next {b k : Int → Int} {sd r ps f t q : Int} (hg : gp b sd r ps) (hk : kg b k) (hf : 0 ≤ f ∧ f < 64) (ht : 0 ≤ t ∧ t < 64) (h : gosS b sd r ps f t q) : kg (plB b sd ps f t q) (mkK b sd f t k) := by
  intro c hc1 hc2
  have hsd := hg.1.sd
  have hkc := hk c hc1 hc2
  have hv := of_v hg.1.cl hf h.1.1
  have hm := mvV_v hg.1 hf h
  have hne := gos_ne h
  have hks := king_safe hg hf ht h
  have stay : (c = sd → ¬ b f % 8 = 6) → plB b sd ps f t q (k c) = b (k c) := by
    intro hcs
    rcases pl_any hg.1 hf ht h (k c) with ⟨e, -⟩ | ⟨e, -⟩ | ⟨-, -, -, e, -⟩ | ⟨-, -, -, e⟩ | ⟨-, -, -, e⟩ | ⟨-, e⟩
    · exfalso
      rw [e] at hkc
      by_cases hx : c = sd
      · have := hcs hx; omega
      · omega
    · exfalso
      rw [e] at hkc
      by_cases hx : c = sd
      · refine h.1.2 ⟨by omega, by omega⟩
      · refine hks ?_
        rw [hkc.2]; omega
    · omega
    · omega
    · omega
    · exact e
  unfold mkK
  by_cases h6 : b f % 8 = 6
  · rw [if_pos h6]
    by_cases hx : c = sd
    · rw [hx, updB_eq]
      refine ⟨ht, ?_⟩
      rw [pl_t hne]; omega
    · rw [updB_ne hx]
      exact ⟨hkc.1, by rw [stay (fun z => absurd z hx)]; exact hkc.2⟩
  · rw [if_neg h6]
    exact ⟨hkc.1, by rw [stay (fun _ => h6)]; exact hkc.2⟩
theorem mk_ck {b : Int → Int} {sd ps ck f t : Int} : mkC b sd ps ck f t = qckM b ck f t := by
  unfold mkC qckM takA
  by_cases h1 : b f % 8 = 1
  · rw [if_pos (Or.inl h1), if_neg (fun z => z.1 h1)]
  · rw [if_neg (fun z : b f % 8 = 1 ∧ t = ps => h1 z.1)]
    by_cases h2 : b t = 0
    · rw [if_neg (fun z => z.elim h1 (fun y => y h2)), if_pos ⟨h1, h2⟩]
    · rw [if_pos (Or.inr h2), if_neg (fun z => h2 z.2)]
theorem lg_law {b k : Int → Int} {sd r ps x : Int} (hg : gp b sd r ps) (hk : kg b k) (hx : gosC b sd r ps x) : lgC b k sd ps x ↔ ¬ chkS (plX b sd ps x) sd := by
  obtain ⟨hr, h⟩ := hx
  have hf : 0 ≤ x / 512 ∧ x / 512 < 64 := by omega
  have ht : 0 ≤ x / 8 % 64 ∧ x / 8 % 64 < 64 := by omega
  have hsd := hg.1.sd
  have h0 := gp0_next hg hf ht h
  have hkk := kg_next hg hk hf ht h sd hsd.1 hsd.2
  have hcn := chk_cnt h0.bd hsd (h0.me hsd) hkk.1 hkk.2
  unfold lgC plX
  rw [mk_pl hg.1 hf ht h, hcn]
  have : 0 ≤ cntA (plB b sd ps (x / 512) (x / 8 % 64) (x % 8)) (mkK b sd (x / 512) (x / 8 % 64) k sd) (1 - sd) 8 := by
    rw [cnt_many h0.bd (by omega) hkk.1]
    exact man_nn
  omega
/-- the list of legal codes -/
def lwIs (b : Int → Int) (sd r ps : Int) (ll : List Int) : Prop := ll.Pairwise (· < ·) ∧ ∀ x, x ∈ ll ↔ (0 ≤ x ∧ x < 32768) ∧ lawC b sd r ps x
theorem lg_lw {b k : Int → Int} {sd r ps : Int} {ll : List Int} (hg : gp b sd r ps) (hk : kg b k) (h : lgIs b k sd r ps ll) : lwIs b sd r ps ll := by
  refine ⟨h.1, fun x => ?_⟩
  rw [h.2 x, all_mem hg.1]
  constructor
  · rintro ⟨h1, h2⟩
    exact ⟨h1.1, h1.2, (lg_law hg hk h1).mp h2⟩
  · rintro ⟨h1, h2, h3⟩
    exact ⟨⟨h1, h2⟩, (lg_law hg hk ⟨h1, h2⟩).mpr h3⟩
theorem lw_un {b : Int → Int} {sd r ps : Int} {l m : List Int} (h1 : lwIs b sd r ps l) (h2 : lwIs b sd r ps m) : l = m := by
  have hm : ∀ x, x ∈ l ↔ x ∈ m := fun x => by rw [h1.2, h2.2]
  have key : ∀ {l m : List Int}, l.Pairwise (· < ·) → m.Pairwise (· < ·) → (∀ x, x ∈ l ↔ x ∈ m) → l = m := by
    intro l
    induction l with
    | nil =>
      intro m _ _ h
      cases m with
      | nil => rfl
      | cons y m => exact absurd ((h y).mpr (by simp)) (by simp)
    | cons x l ih =>
      intro m p1 p2 h
      cases m with
      | nil => exact absurd ((h x).mp (by simp)) (by simp)
      | cons y m =>
        rw [List.pairwise_cons] at p1 p2
        have e : x = y := by
          have a1 := (h x).mp (by simp)
          have a2 := (h y).mpr (by simp)
          rw [List.mem_cons] at a1 a2
          rcases a1 with a1 | a1
          · exact a1
          · rcases a2 with a2 | a2
            · exact a2.symm
            · have := p1.1 y a2
              have := p2.1 x a1
              omega
        subst e
        rw [ih p1.2 p2.2 (fun z => ?_)]
        constructor
        · intro hz
          have := p1.1 z hz
          have a1 := (h z).mp (by simp [hz])
          rw [List.mem_cons] at a1
          rcases a1 with a1 | a1
          · omega
          · exact a1
        · intro hz
          have := p2.1 z hz
          have a1 := (h z).mpr (by simp [hz])
          rw [List.mem_cons] at a1
          rcases a1 with a1 | a1
          · omega
          · exact a1
  exact key h1.1 h2.1 hm
theorem nx_ok {b k : Int → Int} {sd r ps ck x : Int} (hg : gp b sd r ps) (hk : kg b k) (hck : 0 ≤ ck ∧ ck < 30000) (hr : 0 ≤ x ∧ x < 32768) (h : lawC b sd r ps x) : nxOk b k sd r ps ck x := by
  have hf : 0 ≤ x / 512 ∧ x / 512 < 64 := by omega
  have ht : 0 ≤ x / 8 % 64 ∧ x / 8 % 64 < 64 := by omega
  have hsd := hg.1.sd
  have hn := gp_next hg hf ht h
  have hkn := kg_next hg hk hf ht h.1
  have hc : 0 ≤ mkC b sd ps ck (x / 512) (x / 8 % 64) ∧ mkC b sd ps ck (x / 512) (x / 8 % 64) ≤ 30000 := by
    unfold mkC
    split <;> omega
  unfold nxOk nxB
  rw [mk_pl hg.1 hf ht h.1, lr_kp hg.1.rg hf ht, mk_pass hg.1 hf ht h.1]
  exact ⟨gos_ok hg.1 hk ⟨hr, h.1⟩, hn.psOk hc, gp_fn hn.1 hkn, (hkn (1 - sd) (by omega) (by omega)).1⟩
