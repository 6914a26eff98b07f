/-! The class's moves are those that the reference lets go. -/
theorem pm_mem {f t sd x : Int} (hsd : 0 ≤ sd ∧ sd ≤ 1) (ht : 0 ≤ t ∧ t < 64) (hr : ¬ t / 8 = (if sd = 0 then 0 else 7)) : x ∈ pmL f t ↔ ∃ q, x = 512 * f + 8 * t + q ∧ prS sd t q := by
  unfold pmL prS
  by_cases h : ¬ t / 8 = 0 ∧ ¬ t / 8 = 7
  · have hn : ¬ t / 8 = (if sd = 0 then 7 else 0) := by split <;> omega
    rw [if_pos h, List.mem_singleton]
    constructor
    · intro hx
      exact ⟨0, by omega, by rw [if_neg hn]⟩
    · rintro ⟨q, hx, hq⟩
      rw [if_neg hn] at hq
      omega
  · have hn : t / 8 = (if sd = 0 then 7 else 0) := by
      by_cases h0 : sd = 0
      · rw [if_pos h0] at *; omega
      · rw [if_neg h0] at *; omega
    rw [if_neg h]
    simp only [List.mem_cons, List.not_mem_nil, or_false]
    constructor
    · rintro (hx | hx | hx | hx)
      · exact ⟨2, by omega, by rw [if_pos hn]; omega⟩
      · exact ⟨3, by omega, by rw [if_pos hn]; omega⟩
      · exact ⟨4, by omega, by rw [if_pos hn]; omega⟩
      · exact ⟨5, by omega, by rw [if_pos hn]; omega⟩
    · rintro ⟨q, hx, hq⟩
      rw [if_pos hn] at hq
      omega
theorem ahd_v {sd : Int} (hsd : 0 ≤ sd ∧ sd ≤ 1) : (sd = 0 ∧ ahd sd = 8) ∨ (sd = 1 ∧ ahd sd = -8) := by
  unfold ahd
  rcases (show sd = 0 ∨ sd = 1 by omega) with rfl | rfl
  · left; exact ⟨rfl, rfl⟩
  · right; exact ⟨rfl, rfl⟩
theorem stp_mem {b : Int → Int} {f sd x : Int} (hsd : 0 ≤ sd ∧ sd ≤ 1) (hf : 8 ≤ f ∧ f < 56) : x ∈ stpL b sd f ↔ ∃ t q, (0 ≤ t ∧ t < 64) ∧ x = 512 * f + 8 * t + q ∧ prS sd t q ∧ ((t = f + ahd sd ∧ b t = 0) ∨ (t = f + 2 * ahd sd ∧ f / 8 = (if sd = 0 then 1 else 6) ∧ b t = 0 ∧ b (f + ahd sd) = 0)) := by
  have ha := ahd_v hsd
  have h1 : (0 ≤ f + ahd sd ∧ f + ahd sd < 64) := by omega
  have r1 : ¬ (f + ahd sd) / 8 = (if sd = 0 then 0 else 7) := by split <;> omega
  unfold stpL
  by_cases he : b (f + ahd sd) = 0
  · rw [if_pos ⟨h1, he⟩, List.mem_append, pm_mem hsd h1 r1]
    by_cases h2 : f / 8 = (if sd = 0 then 1 else 6) ∧ b (f + ahd sd + ahd sd) = 0
    · have e2 : f + ahd sd + ahd sd = f + 2 * ahd sd := by omega
      have h3 : 0 ≤ f + ahd sd + ahd sd ∧ f + ahd sd + ahd sd < 64 := by
        have := h2.1
        rcases ha with ha | ha
        · rw [if_pos ha.1] at this; omega
        · rw [if_neg (by omega)] at this; omega
      have r3 : ¬ (f + ahd sd + ahd sd) / 8 = (if sd = 0 then 0 else 7) := by split <;> omega
      rw [if_pos h2, pm_mem hsd h3 r3]
      constructor
      · rintro (⟨q, hx, hq⟩ | ⟨q, hx, hq⟩)
        · exact ⟨_, q, h1, hx, hq, Or.inl ⟨rfl, he⟩⟩
        · exact ⟨_, q, h3, hx, hq, Or.inr ⟨e2, h2.1, h2.2, he⟩⟩
      · rintro ⟨t, q, ht, hx, hq, ⟨et, -⟩ | ⟨et, -⟩⟩
        · left; rw [et] at hx hq; exact ⟨q, hx, hq⟩
        · right; rw [et, ← e2] at hx hq; exact ⟨q, hx, hq⟩
    · rw [if_neg h2]
      constructor
      · rintro (⟨q, hx, hq⟩ | h)
        · exact ⟨_, q, h1, hx, hq, Or.inl ⟨rfl, he⟩⟩
        · simp at h
      · rintro ⟨t, q, ht, hx, hq, ⟨et, -⟩ | ⟨et, g1, g2, -⟩⟩
        · left; rw [et] at hx hq; exact ⟨q, hx, hq⟩
        · exfalso
          refine h2 ⟨g1, ?_⟩
          rw [show f + ahd sd + ahd sd = f + 2 * ahd sd by omega, ← et]
          exact g2
  · rw [if_neg (fun z => he z.2)]
    constructor
    · intro h; simp at h
    · rintro ⟨t, q, ht, hx, hq, ⟨et, g⟩ | ⟨et, g1, g2, g⟩⟩
      · rw [et] at g; exact absurd g he
      · exact absurd g he
theorem tk_mem {b : Int → Int} {f f2 sd ps x : Int} (hsd : 0 ≤ sd ∧ sd ≤ 1) (hf : 8 ≤ f ∧ f < 56) : x ∈ tk1 b sd ps f f2 ↔ ∃ t q, (0 ≤ t ∧ t < 64) ∧ x = 512 * f + 8 * t + q ∧ prS sd t q ∧ t % 8 = f2 ∧ t / 8 = f / 8 + (if sd = 0 then 1 else -1) ∧ (t = ps ∨ ofS (b t) (1 - sd)) := by
  unfold tk1
  generalize hu : (if sd = 0 then (1 : Int) else -1) = u
  have hu2 : (sd = 0 ∧ u = 1) ∨ (sd = 1 ∧ u = -1) := by
    rcases (show sd = 0 ∨ sd = 1 by omega) with rfl | rfl
    · left; exact ⟨rfl, hu.symm⟩
    · right; exact ⟨rfl, hu.symm⟩
  by_cases hc : tkC b sd ps f2 (f / 8 + u)
  · rw [dec_p hc, if_pos rfl]
    have ht : 0 ≤ 8 * (f / 8 + u) + f2 ∧ 8 * (f / 8 + u) + f2 < 64 := by have := hc.1; omega
    have hr : ¬ (8 * (f / 8 + u) + f2) / 8 = (if sd = 0 then 0 else 7) := by have := hc.1; split <;> omega
    rw [pm_mem hsd ht hr]
    constructor
    · rintro ⟨q, hx, hq⟩
      exact ⟨_, q, ht, hx, hq, by have := hc.1; omega, by have := hc.1; omega, hc.2⟩
    · rintro ⟨t, q, _, hx, hq, e1, e2, _⟩
      have : t = 8 * (f / 8 + u) + f2 := by omega
      rw [this] at hx hq
      exact ⟨q, hx, hq⟩
  · rw [dec_n hc, if_neg (by decide)]
    constructor
    · intro h; simp at h
    · rintro ⟨t, q, ht, hx, hq, e1, e2, e3⟩
      exfalso
      refine hc ⟨by omega, ?_⟩
      rw [show 8 * (f / 8 + u) + f2 = t by omega]
      exact e3
theorem sz_1 {x : Int} : sz x = 1 ↔ x = 1 ∨ x = -1 := by unfold sz; split <;> omega
theorem pw_hit {b : Int → Int} {f t sd : Int} (hsd : 0 ≤ sd ∧ sd ≤ 1) (e : b f = 1 + 8 * sd) : hitS b f t ↔ ((t % 8 = f % 8 - 1 ∨ t % 8 = f % 8 + 1) ∧ t / 8 = f / 8 + (if sd = 0 then 1 else -1)) := by
  have hg : ∀ u : Int, gpw u f t = true ↔ ((t % 8 = f % 8 - 1 ∨ t % 8 = f % 8 + 1) ∧ t / 8 = f / 8 + u) := by
    intro u
    unfold gpw gdf gdr
    rw [Bool.and_eq_true, beq_iff_eq, beq_iff_eq, sz_1]
    omega
  have hu : (if b f < 8 then (1 : Int) else -1) = (if sd = 0 then 1 else -1) := by
    rcases (show sd = 0 ∨ sd = 1 by omega) with rfl | rfl
    · rw [e]; rfl
    · rw [e]; rfl
  unfold hitS
  rw [hu]
  constructor
  · rintro (h | h | h | h | h | h)
    · exact (hg _).mp h.2
    all_goals (have := h.1; omega)
  · intro h
    exact Or.inl ⟨by omega, (hg _).mpr h⟩
theorem pwn_mem {b : Int → Int} {f sd ps x : Int} (hsd : 0 ≤ sd ∧ sd ≤ 1) (hf : 8 ≤ f ∧ f < 56) (e : b f = 1 + 8 * sd) (hps : 0 ≤ ps → b ps = 0) : x ∈ stpL b sd f ++ (tk1 b sd ps f (f % 8 - 1) ++ tk1 b sd ps f (f % 8 + 1)) ↔ ∃ t q, (0 ≤ t ∧ t < 64) ∧ x = 512 * f + 8 * t + q ∧ ¬ ofS (b t) sd ∧ prS sd t q ∧ pwS b sd ps f t := by
  have ha := ahd_v hsd
  have hu : (sd = 0 ∧ (if sd = 0 then (1 : Int) else -1) = 1) ∨ (sd = 1 ∧ (if sd = 0 then (1 : Int) else -1) = -1) := by
    rcases (show sd = 0 ∨ sd = 1 by omega) with rfl | rfl
    · left; exact ⟨rfl, rfl⟩
    · right; exact ⟨rfl, rfl⟩
  have emp : ∀ t, b t = 0 → ¬ ofS (b t) sd := fun t h z => z.1 h
  have cap : ∀ t q, (0 ≤ t ∧ t < 64) → x = 512 * f + 8 * t + q → prS sd t q → (t % 8 = f % 8 - 1 ∨ t % 8 = f % 8 + 1) → t / 8 = f / 8 + (if sd = 0 then 1 else -1) → (t = ps ∨ ofS (b t) (1 - sd)) → ∃ t q, (0 ≤ t ∧ t < 64) ∧ x = 512 * f + 8 * t + q ∧ ¬ ofS (b t) sd ∧ prS sd t q ∧ pwS b sd ps f t := by
    intro t q ht hx hq e1 e2 e3
    refine ⟨t, q, ht, hx, ?_, hq, ?_⟩
    · rcases e3 with e3 | e3
      · rw [e3]; exact emp _ (hps (by omega))
      · intro z
        have := z.2
        have := e3.2
        omega
    · unfold pwS
      rw [if_neg (by omega), if_neg (by omega), pw_hit hsd e]
      exact ⟨⟨e1, e2⟩, e3.symm⟩
  rw [List.mem_append, List.mem_append, stp_mem hsd hf, tk_mem hsd hf, tk_mem hsd hf]
  constructor
  · rintro (⟨t, q, ht, hx, hq, h⟩ | ⟨t, q, ht, hx, hq, e1, e2, e3⟩ | ⟨t, q, ht, hx, hq, e1, e2, e3⟩)
    · refine ⟨t, q, ht, hx, emp t ?_, hq, ?_⟩
      · rcases h with h | h
        · exact h.2
        · exact h.2.2.1
      · unfold pwS
        rcases h with h | h
        · rw [if_pos h.1]; exact h.2
        · rw [if_neg (by omega), if_pos h.1]; exact h.2
    · exact cap t q ht hx hq (Or.inl e1) e2 e3
    · exact cap t q ht hx hq (Or.inr e1) e2 e3
  · rintro ⟨t, q, ht, hx, -, hq, hw⟩
    unfold pwS at hw
    by_cases t1 : t = f + ahd sd
    · rw [if_pos t1] at hw
      exact Or.inl ⟨t, q, ht, hx, hq, Or.inl ⟨t1, hw⟩⟩
    · rw [if_neg t1] at hw
      by_cases t2 : t = f + 2 * ahd sd
      · rw [if_pos t2] at hw
        exact Or.inl ⟨t, q, ht, hx, hq, Or.inr ⟨t2, hw⟩⟩
      · rw [if_neg t2, pw_hit hsd e] at hw
        rcases hw.1.1 with h | h
        · exact Or.inr (Or.inl ⟨t, q, ht, hx, hq, h, hw.1.2, hw.2.symm⟩)
        · exact Or.inr (Or.inr ⟨t, q, ht, hx, hq, h, hw.1.2, hw.2.symm⟩)
theorem pcs_mem {b : Int → Int} {sd ps x : Int} : ∀ {n : Nat}, x ∈ pcsL b sd ps n ↔ ∃ m : Nat, m < n ∧ x ∈ pc1 b sd ps m
  | 0 => by simp [pcsL]
  | n + 1 => by
    unfold pcsL
    rw [List.mem_append, pcs_mem]
    constructor
    · rintro (⟨m, hm, h⟩ | h)
      · exact ⟨m, by omega, h⟩
      · exact ⟨n, by omega, h⟩
    · rintro ⟨m, hm, h⟩
      by_cases hmn : m = n
      · right; rw [← hmn]; exact h
      · left; exact ⟨m, by omega, h⟩
/-- steps, takings, promotions: all but castlings -/
def stpS (b : Int → Int) (sd ps f t q : Int) : Prop := (ofS (b f) sd ∧ ¬ ofS (b t) sd) ∧ ((b f % 8 = 1 ∧ prS sd t q ∧ pwS b sd ps f t) ∨ (¬ b f % 8 = 1 ∧ q = 0 ∧ hitS b f t))
theorem pwn_rank {b : Int → Int} {f : Int} (hw : ¬ pwnP b) (hf : 0 ≤ f ∧ f < 64) (h1 : b f % 8 = 1) : 8 ≤ f ∧ f < 56 := by
  by_cases h : f < 8
  · exact absurd ⟨f, by omega, Or.inl h1⟩ hw
  · by_cases h2 : 56 ≤ f
    · exact absurd ⟨f - 56, by omega, Or.inr (by rw [show 56 + (f - 56) = f by omega]; exact h1)⟩ hw
    · omega
theorem of_v {b : Int → Int} {sd f : Int} (hc : clOk b) (hf : 0 ≤ f ∧ f < 64) (ho : ofS (b f) sd) : b f = b f % 8 + 8 * sd ∧ 1 ≤ b f % 8 ∧ b f % 8 ≤ 6 := by
  have h1 := hc f hf.1 hf.2
  obtain ⟨h2, h3⟩ := ho
  omega
theorem gp0.pz {b : Int → Int} {sd r ps : Int} (h : gp0 b sd r ps) (h0 : 0 ≤ ps) : b ps = 0 := by
  rcases h.pa with h1 | h1
  · omega
  · exact h1.2.1.1
theorem pc1_mem {b : Int → Int} {sd r ps x f : Int} (hg : gp0 b sd r ps) (hf : 0 ≤ f ∧ f < 64) : x ∈ pc1 b sd ps f ↔ ∃ t q, (0 ≤ t ∧ t < 64) ∧ (0 ≤ q ∧ q < 8) ∧ x = 512 * f + 8 * t + q ∧ stpS b sd ps f t q := by
  unfold pc1 stpS
  by_cases ho : ofS (b f) sd
  · rw [if_pos (show b f ≠ 0 ∧ b f / 8 = sd from ho)]
    have hv := of_v hg.cl hf ho
    by_cases h1 : b f % 8 = 1
    · rw [if_pos h1, pwn_mem hg.sd (pwn_rank hg.pw hf h1) (by omega) (fun z => hg.pz z)]
      constructor
      · rintro ⟨t, q, ht, hx, hn, hq, hw⟩
        refine ⟨t, q, ht, ?_, hx, ⟨ho, hn⟩, Or.inl ⟨h1, hq, hw⟩⟩
        unfold prS at hq
        by_cases hc : t / 8 = (if sd = 0 then 7 else 0)
        · rw [if_pos hc] at hq; omega
        · rw [if_neg hc] at hq; omega
      · rintro ⟨t, q, ht, -, hx, ⟨-, hn⟩, ⟨-, hq, hw⟩ | ⟨h, -⟩⟩
        · exact ⟨t, q, ht, hx, hn, hq, hw⟩
        · exact absurd h1 h
    · rw [if_neg h1, rds_hit hf (by omega)]
      constructor
      · rintro ⟨t, ht, hx, hn, hh⟩
        exact ⟨t, 0, ht, by omega, by omega, ⟨ho, hn⟩, Or.inr ⟨h1, rfl, hh⟩⟩
      · rintro ⟨t, q, ht, -, hx, ⟨-, hn⟩, ⟨h, -⟩ | ⟨-, hq, hh⟩⟩
        · exact absurd h h1
        · exact ⟨t, ht, by omega, hn, hh⟩
  · rw [if_neg (show ¬ (b f ≠ 0 ∧ b f / 8 = sd) from ho)]
    constructor
    · intro h; simp at h
    · rintro ⟨t, q, -, -, -, ⟨h, -⟩, -⟩
      exact absurd h ho
theorem pcs_stp {b : Int → Int} {sd r ps x : Int} (hg : gp0 b sd r ps) : x ∈ pcsL b sd ps 64 ↔ (0 ≤ x ∧ x < 32768) ∧ stpS b sd ps (x / 512) (x / 8 % 64) (x % 8) := by
  rw [pcs_mem]
  constructor
  · rintro ⟨m, hm, h⟩
    obtain ⟨t, q, ht, hq, hx, hs⟩ := (pc1_mem hg (by omega)).mp h
    refine ⟨by omega, ?_⟩
    rw [show x / 512 = m by omega, show x / 8 % 64 = t by omega, show x % 8 = q by omega]
    exact hs
  · rintro ⟨hx, hs⟩
    refine ⟨(x / 512).toNat, by omega, (pc1_mem hg (by omega)).mpr ⟨x / 8 % 64, x % 8, by omega, by omega, by omega, ?_⟩⟩
    rw [show (((x / 512).toNat : Nat) : Int) = x / 512 by omega]
    exact hs
/-! castling -/
theorem bit_a : ∀ n : Nat, n < 16 → ∀ c : Nat, c < 2 → (aand (n : Int) (1 * 2 ^ (2 * (c : Int)).toNat) = 0 ↔ rrA n c % 2 = 0) ∧ (aand (n : Int) (2 * 2 ^ (2 * (c : Int)).toNat) = 0 ↔ rrA n c / 2 % 2 = 0) := by decide +kernel
theorem bit_b : ∀ n : Nat, n < 16 → ∀ c : Nat, c < 2 → (aand (n : Int) (1 * 2 ^ (2 * c)) = 0 ↔ rrA n c % 2 = 0) ∧ (aand (n : Int) (1 * 2 ^ (2 * c + 1)) = 0 ↔ rrA n c / 2 % 2 = 0) := by decide +kernel
theorem home_t : ∀ c : Nat, c < 2 → tbl 24 ((2 * c : Nat) : Int) = hmA c ∧ tbl 24 ((2 * c + 1 : Nat) : Int) = hmA c ∧ tbl 25 ((2 * c : Nat) : Int) = hmA c + 3 ∧ tbl 25 ((2 * c + 1 : Nat) : Int) = hmA c - 4 := by decide +kernel
theorem hm_v {sd : Int} (hsd : 0 ≤ sd ∧ sd ≤ 1) : (sd = 0 ∧ hmA sd = 4) ∨ (sd = 1 ∧ hmA sd = 60) := by
  rcases (show sd = 0 ∨ sd = 1 by omega) with rfl | rfl
  · left; exact ⟨rfl, rfl⟩
  · right; exact ⟨rfl, rfl⟩
theorem bit_s {r sd : Int} (hr : 0 ≤ r ∧ r ≤ 15) (hsd : 0 ≤ sd ∧ sd ≤ 1) : (aand r (1 * 2 ^ (2 * sd).toNat) = 0 ↔ rrA r sd % 2 = 0) ∧ (aand r (2 * 2 ^ (2 * sd).toNat) = 0 ↔ rrA r sd / 2 % 2 = 0) := by
  obtain ⟨n, rfl⟩ := Int.eq_ofNat_of_zero_le hr.1
  obtain ⟨c, rfl⟩ := Int.eq_ofNat_of_zero_le hsd.1
  exact bit_a n (by omega) c (by omega)
theorem home_s {b : Int → Int} {r sd : Int} (hr : 0 ≤ r ∧ r ≤ 15) (hsd : 0 ≤ sd ∧ sd ≤ 1) (hk : ∀ n : Nat, n < 4 → bakP b r n) (h : ¬ rrA r sd % 2 = 0) : b (hmA sd) = 6 + 8 * sd ∧ b (hmA sd + 3) = 4 + 8 * sd := by
  obtain ⟨n, rfl⟩ := Int.eq_ofNat_of_zero_le hr.1
  obtain ⟨c, rfl⟩ := Int.eq_ofNat_of_zero_le hsd.1
  rcases hk (2 * c) (by omega) with h1 | h1
  · exact absurd ((bit_b n (by omega) c (by omega)).1.mp h1) h
  · rw [(home_t c (by omega)).1, (home_t c (by omega)).2.2.1] at h1
    rw [show ((2 * c : Nat) : Int) / 2 = (c : Int) by omega] at h1
    exact h1
theorem home_l {b : Int → Int} {r sd : Int} (hr : 0 ≤ r ∧ r ≤ 15) (hsd : 0 ≤ sd ∧ sd ≤ 1) (hk : ∀ n : Nat, n < 4 → bakP b r n) (h : ¬ rrA r sd / 2 % 2 = 0) : b (hmA sd) = 6 + 8 * sd ∧ b (hmA sd - 4) = 4 + 8 * sd := by
  obtain ⟨n, rfl⟩ := Int.eq_ofNat_of_zero_le hr.1
  obtain ⟨c, rfl⟩ := Int.eq_ofNat_of_zero_le hsd.1
  rcases hk (2 * c + 1) (by omega) with h1 | h1
  · exact absurd ((bit_b n (by omega) c (by omega)).2.mp h1) h
  · rw [(home_t c (by omega)).2.1, (home_t c (by omega)).2.2.2] at h1
    rw [show ((2 * c + 1 : Nat) : Int) / 2 = (c : Int) by omega] at h1
    exact h1
/-- a castling, spelt out -/
theorem cst_v {b : Int → Int} {r sd ps f t : Int} (hg : gp0 b sd r ps) (h : cstS b r sd f t) : f = hmA sd ∧ b f = 6 + 8 * sd ∧ b t = 0 ∧ b ((f + t) / 2) = 0 ∧ ((t = f + 2 ∧ rkA f t = f + 3 ∧ b (f + 3) = 4 + 8 * sd) ∨ (t = f - 2 ∧ rkA f t = f - 4 ∧ b (f - 4) = 4 + 8 * sd)) := by
  obtain ⟨⟨e1, e2, e3⟩, h2, -, -⟩ := h
  have hh := hm_v hg.sd
  have hbs := bit_s hg.rg hg.sd
  rcases e2 with e2 | e2
  · rw [if_pos e2] at e3 h2
    rw [if_pos e2] at h2
    have hq := home_s hg.rg hg.sd hg.bk (fun z => e3 (hbs.1.mpr z))
    refine ⟨e1, by rw [e1]; exact hq.1, h2 _ (by omega) (by omega), h2 _ (by omega) (by omega), Or.inl ⟨by omega, ?_, by rw [e1]; exact hq.2⟩⟩
    unfold rkA
    rw [if_pos (by omega)]
  · rw [if_neg (by omega)] at e3 h2
    rw [if_neg (by omega)] at h2
    have hq := home_l hg.rg hg.sd hg.bk (fun z => e3 (hbs.2.mpr z))
    refine ⟨e1, by rw [e1]; exact hq.1, h2 _ (by omega) (by omega), h2 _ (by omega) (by omega), Or.inr ⟨by omega, ?_, by rw [e1]; exact hq.2⟩⟩
    unfold rkA
    rw [if_neg (by omega)]
theorem csA_mem {b : Int → Int} {r sd ps x : Int} (hg : gp0 b sd r ps) : x ∈ csA b r sd ↔ ∃ t, (0 ≤ t ∧ t < 64) ∧ x = 512 * hmA sd + 8 * t ∧ cstS b r sd (hmA sd) t := by
  have hh := hm_v hg.sd
  have hbs := bit_s hg.rg hg.sd
  have hsd := hg.sd
  have c0 : ∀ s, 0 ≤ s ∧ s < 64 → (cntA b s (1 - sd) 8 = 0 ↔ sumF (manF b s (1 - sd)) 64 = 0) := fun s hs => by rw [cnt_many hg.bd (by omega) hs]
  have ck : b (hmA sd) = 6 + 8 * sd → (¬ 0 < cntA b (hmA sd) (1 - sd) 8 ↔ ¬ chkS b sd) := fun e => by rw [chk_cnt hg.bd hsd (hg.me hsd) (by omega) e]
  have one : ∀ t, (t = hmA sd + 2 → (csS b r sd ∧ cntA b (hmA sd + 1) (1 - sd) 8 = 0) ∧ ¬ 0 < cntA b (hmA sd) (1 - sd) 8 → cstS b r sd (hmA sd) t) ∧ (t = hmA sd - 2 → (csL b r sd ∧ cntA b (hmA sd - 1) (1 - sd) 8 = 0) ∧ ¬ 0 < cntA b (hmA sd) (1 - sd) 8 → cstS b r sd (hmA sd) t) := by
    intro t
    constructor
    · rintro e ⟨⟨⟨a1, a2⟩, a3⟩, a4⟩
      have hq := home_s hg.rg hsd hg.bk a1
      refine ⟨⟨rfl, Or.inl e, ?_⟩, ?_, (ck hq.1).mp a4, ?_⟩
      · rw [if_pos e]; exact fun z => a1 (hbs.1.mp z)
      · rw [if_pos e, if_pos e]; exact a2
      · rw [if_pos e]; exact (c0 _ (by omega)).mp a3
    · rintro e ⟨⟨⟨a1, a2⟩, a3⟩, a4⟩
      have hq := home_l hg.rg hsd hg.bk a1
      refine ⟨⟨rfl, Or.inr e, ?_⟩, ?_, (ck hq.1).mp a4, ?_⟩
      · rw [if_neg (by omega)]; exact fun z => a1 (hbs.2.mp z)
      · rw [if_neg (by omega), if_neg (by omega)]; exact a2
      · rw [if_neg (by omega)]; exact (c0 _ (by omega)).mp a3
  constructor
  · intro h
    unfold csA at h
    by_cases hc : (csS b r sd ∨ csL b r sd) ∧ ¬ 0 < cntA b (hmA sd) (1 - sd) 8
    · rw [dec_p hc, if_pos rfl, List.mem_append] at h
      rcases h with h | h
      · unfold cs1 at h
        by_cases h1 : csS b r sd ∧ cntA b (hmA sd + 1) (1 - sd) 8 = 0
        · rw [dec_p h1, if_pos rfl, List.mem_singleton] at h
          exact ⟨_, by omega, h, (one _).1 rfl ⟨h1, hc.2⟩⟩
        · rw [dec_n h1, if_neg (by decide)] at h; simp at h
      · unfold cs2 at h
        by_cases h1 : csL b r sd ∧ cntA b (hmA sd - 1) (1 - sd) 8 = 0
        · rw [dec_p h1, if_pos rfl, List.mem_singleton] at h
          exact ⟨_, by omega, h, (one _).2 rfl ⟨h1, hc.2⟩⟩
        · rw [dec_n h1, if_neg (by decide)] at h; simp at h
    · rw [dec_n hc, if_neg (by decide)] at h; simp at h
  · rintro ⟨t, ht, hx, hc⟩
    have hv := cst_v hg hc
    obtain ⟨⟨-, e2, e3⟩, h2, h3, h4⟩ := hc
    unfold csA
    rcases e2 with e2 | e2
    · rw [if_pos e2] at e3 h2 h4
      rw [if_pos e2] at h2
      have h1 : csS b r sd ∧ cntA b (hmA sd + 1) (1 - sd) 8 = 0 := ⟨⟨fun z => e3 (hbs.1.mpr z), h2⟩, (c0 _ (by omega)).mpr h4⟩
      rw [dec_p ⟨Or.inl h1.1, (ck hv.2.1).mpr h3⟩, if_pos rfl, List.mem_append]
      left
      unfold cs1
      rw [dec_p h1, if_pos rfl, List.mem_singleton, ← e2]
      exact hx
    · rw [if_neg (by omega)] at e3 h2 h4
      rw [if_neg (by omega)] at h2
      have h1 : csL b r sd ∧ cntA b (hmA sd - 1) (1 - sd) 8 = 0 := ⟨⟨fun z => e3 (hbs.2.mpr z), h2⟩, (c0 _ (by omega)).mpr h4⟩
      rw [dec_p ⟨Or.inr h1.1, (ck hv.2.1).mpr h3⟩, if_pos rfl, List.mem_append]
      right
      unfold cs2
      rw [dec_p h1, if_pos rfl, List.mem_singleton, ← e2]
      exact hx
theorem gos_split {b : Int → Int} {r sd ps f t q : Int} (hg : gp0 b sd r ps) : gosS b sd r ps f t q ↔ stpS b sd ps f t q ∨ (q = 0 ∧ cstS b r sd f t) := by
  unfold gosS stpS
  constructor
  · rintro ⟨h0, h | ⟨h1, h2, h | h⟩⟩
    · exact Or.inl ⟨h0, Or.inl h⟩
    · exact Or.inl ⟨h0, Or.inr ⟨h1, h2, h⟩⟩
    · exact Or.inr ⟨h2, h.2⟩
  · rintro (⟨h0, h | h⟩ | ⟨h1, h2⟩)
    · exact ⟨h0, Or.inl h⟩
    · exact ⟨h0, Or.inr ⟨h.1, h.2.1, Or.inl h.2.2⟩⟩
    · have hv := cst_v hg h2
      have hsd := hg.sd
      refine ⟨⟨⟨by omega, by omega⟩, fun z => z.1 hv.2.2.1⟩, Or.inr ⟨by omega, h1, Or.inr ⟨by omega, h2⟩⟩⟩
/-- what may go, as a code -/
def gosC (b : Int → Int) (sd r ps x : Int) : Prop := (0 ≤ x ∧ x < 32768) ∧ gosS b sd r ps (x / 512) (x / 8 % 64) (x % 8)
theorem all_mem {b : Int → Int} {sd r ps x : Int} (hg : gp0 b sd r ps) : x ∈ allL b sd r ps ↔ gosC b sd r ps x := by
  have hh := hm_v hg.sd
  unfold allL gosC
  rw [List.mem_append, pcs_stp hg, csA_mem hg, gos_split hg]
  constructor
  · rintro (⟨h1, h2⟩ | ⟨t, ht, hx, hc⟩)
    · exact ⟨h1, Or.inl h2⟩
    · refine ⟨by omega, Or.inr ⟨by omega, ?_⟩⟩
      rw [show x / 512 = hmA sd by omega, show x / 8 % 64 = t by omega]
      exact hc
  · rintro ⟨h1, h2 | ⟨h2, h3⟩⟩
    · exact Or.inl ⟨h1, h2⟩
    · have hv := cst_v hg h3
      refine Or.inr ⟨x / 8 % 64, by omega, by omega, ?_⟩
      rw [← hv.1]
      exact h3
