/-! What a move does: the class's make is the reference's play; codes are good. -/
theorem kg_hit {b : Int → Int} {f t : Int} (h6 : b f % 8 = 6) (hh : hitS b f t) : gkg f t = true := by
  rcases hh with h | h | h | h | h | h
  · have := h.1; omega
  · have := h.1; omega
  · have := h.1; omega
  · have := h.1; omega
  · have := h.1; omega
  · exact h.2
theorem kg_no2 {f t : Int} (h : gkg f t = true) : ¬ csC f t := by
  unfold gkg gdf gdr sz at h
  simp only [Bool.and_eq_true, decide_eq_true_eq] at h
  obtain ⟨h1, h2, -⟩ := h
  unfold csC
  split at h1 <;> split at h2 <;> omega
theorem gos_qq {b : Int → Int} {sd r ps f t q : Int} (h : gosS b sd r ps f t q) : q = 0 ∨ ((2 ≤ q ∧ q ≤ 5) ∧ b f % 8 = 1) := by
  rcases h.2 with ⟨h1, hp, -⟩ | ⟨-, hp, -⟩
  · unfold prS at hp
    by_cases hc : t / 8 = (if sd = 0 then 7 else 0)
    · rw [if_pos hc] at hp; exact Or.inr ⟨hp, h1⟩
    · rw [if_neg hc] at hp; exact Or.inl hp
  · exact Or.inl hp
theorem gos_ne {b : Int → Int} {sd r ps f t q : Int} (h : gosS b sd r ps f t q) : ¬ f = t := fun e => h.1.2 (e ▸ h.1.1)
/-- three kinds of moves: plain ones, takings in passing, castlings -/
def knd (b : Int → Int) (sd r ps f t q : Int) : Prop := (takA b sd ps f t = t ∧ ¬ (b f % 8 = 6 ∧ csC f t) ∧ ¬ (b f % 8 = 1 ∧ t = ps)) ∨ ((b f = 1 + 8 * sd ∧ t = ps ∧ takA b sd ps f t = t - ahd sd) ∧ (b t = 0 ∧ b (t - ahd sd) = 1 + 8 * (1 - sd)) ∧ (16 ≤ t ∧ t < 48) ∧ ¬ t - ahd sd = f ∧ ¬ t % 8 = f % 8) ∨ (cstS b r sd f t ∧ q = 0)
theorem gos_knd {b : Int → Int} {sd r ps f t q : Int} (hg : gp0 b sd r ps) (hf : 0 ≤ f ∧ f < 64) (ht : 0 ≤ t ∧ t < 64) (h : gosS b sd r ps f t q) : knd b sd r ps f t q := by
  have ha := ahd_v hg.sd
  rcases (gos_split hg).mp h with ⟨⟨ho, hn⟩, ⟨h1, -, hw⟩ | ⟨h1, -, hh⟩⟩ | ⟨h1, h2⟩
  · have hv := of_v hg.cl hf ho
    have hsd := hg.sd
    by_cases hp : t = ps
    · right; left
      rcases hg.pa with z | ⟨z1, z2, z3⟩
      · omega
      · rw [← hp] at z1 z2 z3
        have hr : 16 ≤ t ∧ t < 48 := by
          rcases ha with ha | ha
          · rw [if_pos ha.1] at z1; omega
          · rw [if_neg (by omega)] at z1; omega
        have hne : ¬ t - ahd sd = f := by
          intro z; rw [z] at z3; omega
        refine ⟨⟨by omega, hp, ?_⟩, ⟨z2.1, z3⟩, hr, hne, ?_⟩
        · unfold takA
          rw [if_pos ⟨h1, hp⟩]; rfl
        · unfold pwS at hw
          by_cases t1 : t = f + ahd sd
          · omega
          · rw [if_neg t1] at hw
            by_cases t2 : t = f + 2 * ahd sd
            · rw [if_pos t2] at hw
              rw [show t - ahd sd = f + ahd sd by omega, hw.2.2] at z3
              omega
            · rw [if_neg t2, pw_hit hsd (by omega)] at hw
              have := hw.1.1
              omega
    · left
      refine ⟨?_, fun z => by have := z.1; omega, fun z => hp z.2⟩
      unfold takA
      rw [if_neg (fun z => hp z.2)]
  · left
    refine ⟨?_, fun z => kg_no2 (kg_hit z.1 hh) z.2, fun z => h1 z.1⟩
    unfold takA
    rw [if_neg (fun z => h1 z.1)]
  · exact Or.inr (Or.inr ⟨h2, h1⟩)
theorem cst_tak {b : Int → Int} {sd r ps f t : Int} (hg : gp0 b sd r ps) (h : cstS b r sd f t) : takA b sd ps f t = t ∧ b f % 8 = 6 ∧ csC f t ∧ ¬ b f % 8 = 1 := by
  have hv := cst_v hg h
  have hsd := hg.sd
  refine ⟨?_, by omega, ?_, by omega⟩
  · unfold takA
    rw [if_neg (fun z => by have := z.1; omega)]
  · unfold csC; omega
theorem gos_ok {b k : Int → Int} {sd r ps x : Int} (hg : gp0 b sd r ps) (hk : kg b k) (hx : gosC b sd r ps x) : gOk b k sd ps x := by
  obtain ⟨hr, h⟩ := hx
  unfold gOk
  have ha := ahd_v hg.sd
  have hsd := hg.sd
  have hf : 0 ≤ x / 512 ∧ x / 512 < 64 := by omega
  have ht : 0 ≤ x / 8 % 64 ∧ x / 8 % 64 < 64 := by omega
  have hq := gos_qq h
  have hne := gos_ne h
  have hkd := gos_knd hg hf ht h
  have hv := of_v hg.cl hf h.1.1
  generalize x / 512 = f at *
  generalize x / 8 % 64 = t at *
  generalize x % 8 = q at *
  have hkk := hk sd hsd.1 hsd.2
  have h6 : b f % 8 = 6 → k sd = f := fun z => king_un hg.bd hsd (hg.me hsd) hkk.1 hf hkk.2 (by omega)
  have hK : 0 ≤ mkK b sd f t k sd ∧ mkK b sd f t k sd < 64 := by
    unfold mkK
    split
    · rw [updB_eq]; exact ht
    · exact hkk.1
  refine ⟨hr, ?_, ?_, hK⟩
  · refine ⟨hf, ht, by omega, ?_, ?_⟩
    · rcases hkd with ⟨e, -⟩ | ⟨⟨-, -, e⟩, -, e2, -⟩ | ⟨e, -⟩
      · rw [e]; exact ht
      · rw [e]; omega
      · rw [(cst_tak hg e).1]; exact ht
    · intro z1 z2
      rcases hkd with ⟨-, e, -⟩ | ⟨⟨e, -⟩, -⟩ | ⟨e, -⟩
      · exact absurd ⟨z1, z2⟩ e
      · omega
      · have := cst_v hg e
        have := hm_v hsd
        omega
  · refine ⟨hne, fun z => by omega, ?_, ?_, ?_, h6⟩
    · rcases hkd with ⟨e, -⟩ | ⟨⟨-, -, e⟩, -, e2, e3, -⟩ | ⟨e, -⟩
      · rw [e]; omega
      · rw [e]; exact e3
      · rw [(cst_tak hg e).1]; omega
    · intro z
      rcases hkd with ⟨e, -⟩ | ⟨-, e, -⟩ | ⟨e, -⟩
      · exact absurd e z
      · exact e.1
      · exact absurd (cst_tak hg e).1 z
    · intro z1 z2
      rcases hkd with ⟨-, e, -⟩ | ⟨⟨e, -⟩, -⟩ | ⟨e, -⟩
      · exact absurd ⟨z1, z2⟩ e
      · omega
      · exact (cst_v hg e).2.2.2.1
/-! no code twice; not more than 415 -/
theorem nd_app {l1 l2 : List Int} (h1 : l1.Nodup) (h2 : l2.Nodup) (h3 : ∀ x ∈ l1, ∀ y ∈ l2, x ≠ y) : (l1 ++ l2).Nodup := List.nodup_append.mpr ⟨h1, h2, h3⟩
theorem pm_8 {f t x : Int} (h : x ∈ pmL f t) : x / 8 = 64 * f + t := by
  unfold pmL at h
  split at h
  · rw [List.mem_singleton] at h; omega
  · simp only [List.mem_cons, List.not_mem_nil, or_false] at h; omega
theorem pm_nd {f t : Int} : (pmL f t).Nodup := by
  unfold pmL
  split
  · simp
  · simp only [List.nodup_cons, List.mem_cons, List.not_mem_nil, or_false, not_or, List.nodup_nil, not_false_eq_true, and_true]
    omega
theorem pm_len {f t : Int} : (pmL f t).length ≤ 4 := by
  unfold pmL
  split <;> simp
theorem ite_or {α : Type} (p : Prop) [Decidable p] (x y : α) : ite p x y = x ∨ ite p x y = y := by
  by_cases h : p
  · exact Or.inl (if_pos h)
  · exact Or.inr (if_neg h)
theorem tk_or {b : Int → Int} {sd ps f f2 : Int} : tk1 b sd ps f f2 = pmL f (8 * (f / 8 + (if sd = 0 then 1 else -1)) + f2) ∨ tk1 b sd ps f f2 = [] := ite_or _ _ _
theorem stp_or {b : Int → Int} {sd f : Int} : (stpL b sd f = pmL f (f + ahd sd) ++ pmL f (f + ahd sd + ahd sd) ∨ stpL b sd f = pmL f (f + ahd sd) ++ []) ∨ stpL b sd f = [] := by
  unfold stpL
  rcases ite_or (f / 8 = (if sd = 0 then 1 else 6) ∧ b (f + ahd sd + ahd sd) = 0) (pmL f (f + ahd sd + ahd sd)) [] with h | h
  · rw [h]
    exact (ite_or _ _ _).imp Or.inl id
  · rw [h]
    exact (ite_or _ _ _).imp Or.inr id
theorem tk_8 {b : Int → Int} {sd ps f f2 x : Int} (h : x ∈ tk1 b sd ps f f2) : x / 8 = 64 * f + (8 * (f / 8 + (if sd = 0 then 1 else -1)) + f2) := by
  rcases tk_or (b := b) (sd := sd) (ps := ps) (f := f) (f2 := f2) with e | e
  · rw [e] at h; exact pm_8 h
  · rw [e] at h; simp at h
theorem tk_nd {b : Int → Int} {sd ps f f2 : Int} : (tk1 b sd ps f f2).Nodup := by
  rcases tk_or (b := b) (sd := sd) (ps := ps) (f := f) (f2 := f2) with e | e
  · rw [e]; exact pm_nd
  · rw [e]; exact List.nodup_nil
theorem tk_len {b : Int → Int} {sd ps f f2 : Int} : (tk1 b sd ps f f2).length ≤ 4 := by
  rcases tk_or (b := b) (sd := sd) (ps := ps) (f := f) (f2 := f2) with e | e
  · rw [e]; exact pm_len
  · rw [e]; simp
theorem stp_8 {b : Int → Int} {sd f x : Int} (h : x ∈ stpL b sd f) : x / 8 = 64 * f + (f + ahd sd) ∨ x / 8 = 64 * f + (f + ahd sd + ahd sd) := by
  rcases stp_or (b := b) (sd := sd) (f := f) with (e | e) | e
  · rw [e, List.mem_append] at h
    exact h.imp pm_8 pm_8
  · rw [e, List.append_nil] at h
    exact Or.inl (pm_8 h)
  · rw [e] at h; simp at h
theorem stp_nd {b : Int → Int} {sd f : Int} (hsd : 0 ≤ sd ∧ sd ≤ 1) : (stpL b sd f).Nodup := by
  have ha := ahd_v hsd
  rcases stp_or (b := b) (sd := sd) (f := f) with (e | e) | e
  · rw [e]
    refine nd_app pm_nd pm_nd (fun x hx y hy e => ?_)
    have h1 := pm_8 hx
    have h2 := pm_8 hy
    omega
  · rw [e, List.append_nil]; exact pm_nd
  · rw [e]; exact List.nodup_nil
theorem stp_len {b : Int → Int} {sd f : Int} : (stpL b sd f).length ≤ 8 := by
  have h1 := pm_len (f := f) (t := f + ahd sd)
  have h2 := pm_len (f := f) (t := f + ahd sd + ahd sd)
  rcases stp_or (b := b) (sd := sd) (f := f) with (e | e) | e
  · rw [e, List.length_append]; omega
  · rw [e, List.append_nil]; omega
  · rw [e]; simp
theorem pc1_nd {b : Int → Int} {sd ps f : Int} (hsd : 0 ≤ sd ∧ sd ≤ 1) (hf : 0 ≤ f ∧ f < 64) : (pc1 b sd ps f).Nodup := by
  have ha := ahd_v hsd
  have hu : (sd = 0 ∧ (if sd = 0 then (1 : Int) else -1) = 1) ∨ (sd = 1 ∧ (if sd = 0 then (1 : Int) else -1) = -1) := by
    rcases (show sd = 0 ∨ sd = 1 by omega) with rfl | rfl
    · left; exact ⟨rfl, rfl⟩
    · right; exact ⟨rfl, rfl⟩
  unfold pc1
  split
  · split
    · refine nd_app (stp_nd hsd) (nd_app tk_nd tk_nd (fun x hx y hy e => ?_)) (fun x hx y hy e => ?_)
      · have h1 := tk_8 hx
        have h2 := tk_8 hy
        omega
      · have h1 := stp_8 hx
        rw [List.mem_append] at hy
        rcases hy with hy | hy
        · have h2 := tk_8 hy
          omega
        · have h2 := tk_8 hy
          omega
    · exact rds_nd hf
  · exact List.nodup_nil
theorem pc1_len {b : Int → Int} {sd ps f : Int} (hf : 0 ≤ f ∧ f < 64) : ((pc1 b sd ps f).length : Int) ≤ 27 * meF b sd f - 19 * kiF b sd f := by
  unfold pc1
  by_cases ho : ofS (b f) sd
  · rw [if_pos (show b f ≠ 0 ∧ b f / 8 = sd from ho)]
    have e1 : meF b sd f = 1 := dec_p ho
    by_cases h1 : b f % 8 = 1
    · have e2 : kiF b sd f = 0 := dec_n (fun z => by have := z.2; omega)
      rw [if_pos h1, e1, e2, List.length_append, List.length_append]
      have := stp_len (b := b) (sd := sd) (f := f)
      have := tk_len (b := b) (sd := sd) (ps := ps) (f := f) (f2 := f % 8 - 1)
      have := tk_len (b := b) (sd := sd) (ps := ps) (f := f) (f2 := f % 8 + 1)
      omega
    · have hl := rds_len (b := b) (sd := sd) hf
      rw [if_neg h1, e1]
      by_cases h6 : b f % 8 = 6
      · have e2 : kiF b sd f = 1 := dec_p ⟨ho, h6⟩
        rw [if_pos h6] at hl
        omega
      · have e2 : kiF b sd f = 0 := dec_n (fun z => h6 z.2)
        rw [if_neg h6] at hl
        omega
  · rw [if_neg (show ¬ (b f ≠ 0 ∧ b f / 8 = sd) from ho)]
    have e1 : meF b sd f = 0 := dec_n ho
    have e2 : kiF b sd f = 0 := dec_n (fun z => ho z.1)
    simp [e1, e2]
theorem pcs_len {b : Int → Int} {sd ps : Int} : ∀ n : Nat, n ≤ 64 → ((pcsL b sd ps n).length : Int) ≤ 27 * sumF (meF b sd) n - 19 * sumF (kiF b sd) n
  | 0, _ => by simp [pcsL, sumF]
  | n + 1, h => by
    have h1 := pcs_len (b := b) (sd := sd) (ps := ps) n (by omega)
    have h2 := pc1_len (b := b) (sd := sd) (ps := ps) (f := n) (by omega)
    rw [sumF_s, sumF_s]
    unfold pcsL
    rw [List.length_append]
    omega
theorem csA_len {b : Int → Int} {r sd : Int} : (csA b r sd).length ≤ 2 := by
  unfold csA cs1 cs2
  split
  · split <;> split <;> simp
  · simp
theorem pcs_nd {b : Int → Int} {sd r ps : Int} (hg : gp0 b sd r ps) : ∀ n : Nat, n ≤ 64 → (pcsL b sd ps n).Nodup
  | 0, _ => List.nodup_nil
  | n + 1, h => by
    unfold pcsL
    refine nd_app (pcs_nd hg n (by omega)) (pc1_nd hg.sd (by omega)) (fun x hx y hy e => ?_)
    obtain ⟨m, hm, hx⟩ := pcs_mem.mp hx
    obtain ⟨t, q, ht, hq, ex, -⟩ := (pc1_mem hg (by omega)).mp hx
    obtain ⟨t2, q2, ht2, hq2, ey, -⟩ := (pc1_mem hg (by omega)).mp hy
    omega
theorem csA_nd {b : Int → Int} {r sd : Int} : (csA b r sd).Nodup := by
  unfold csA
  split
  · refine nd_app ?_ ?_ ?_
    · unfold cs1; split <;> simp
    · unfold cs2; split <;> simp
    · intro x hx y hy
      unfold cs1 at hx
      unfold cs2 at hy
      split at hx
      · split at hy
        · rw [List.mem_singleton] at hx hy; omega
        · simp at hy
      · simp at hx
  · exact List.nodup_nil
theorem gp_fn {b k : Int → Int} {sd r ps : Int} (hg : gp0 b sd r ps) (hk : kg b k) : fnOk b k sd r ps := by
  refine ⟨?_, ?_, fun c hc => gos_ok hg hk ((all_mem hg).mp hc)⟩
  · unfold allL
    rw [List.length_append]
    have h1 := pcs_len (b := b) (sd := sd) (ps := ps) 64 (by omega)
    have h2 := csA_len (b := b) (r := r) (sd := sd)
    have h3 := hg.me hg.sd
    have h4 := h3.1
    have h5 := h3.2
    omega
  · unfold allL
    refine nd_app (pcs_nd hg 64 (by omega)) csA_nd (fun x hx y hy e => ?_)
    obtain ⟨t, ht, ey, hc⟩ := (csA_mem hg).mp hy
    have hh := hm_v hg.sd
    have hv := cst_v hg hc
    have hx2 := ((pcs_stp hg).mp hx).2
    rw [show x / 512 = hmA sd by omega, show x / 8 % 64 = t by omega] at hx2
    have h6 : b (hmA sd) % 8 = 6 := by have := hg.sd; omega
    rcases hx2.2 with h | h
    · have := h.1; omega
    · refine kg_no2 (kg_hit h6 h.2.2) ?_
      unfold csC; omega
/-! the board after a move -/
theorem mk_pl {b : Int → Int} {sd r ps f t q : Int} (hg : gp0 b sd r ps) (hf : 0 ≤ f ∧ f < 64) (ht : 0 ≤ t ∧ t < 64) (h : gosS b sd r ps f t q) : mkB b sd ps f t q = plB b sd ps f t q := by
  have hne := gos_ne h
  have hq := gos_qq h
  have hkd := gos_knd hg hf ht h
  have ev : (if q = 0 then b f else q + 8 * sd) = (if 0 < q then q + 8 * sd else b f) := by
    by_cases hz : q = 0
    · rw [if_pos hz, if_neg (by omega)]
    · rw [if_neg hz, if_pos (by omega)]
  unfold mkB plB pl2 mk3
  rw [ev]
  generalize (if 0 < q then q + 8 * sd else b f) = v
  rcases hkd with ⟨e1, e2, e3⟩ | ⟨⟨e1, e2, e3⟩, e4, e5, e6, e7⟩ | ⟨e1, e2⟩
  · rw [dec_n e2, if_neg (by decide), if_neg (by decide), e1]
    unfold pl1
    rw [if_neg (fun z => e3 ⟨z.1, z.2.1⟩)]
    funext s
    unfold updB
    by_cases hs : s = t
    · rw [if_pos hs, if_neg (by omega), if_pos hs]
    · rw [if_neg hs, if_neg hs, if_neg hs]
  · have hsd := hg.sd
    rw [dec_n (fun z => by have := z.1; omega), if_neg (by decide), if_neg (by decide), e3]
    unfold pl1
    rw [if_pos ⟨by omega, e2, e7⟩]
    funext s
    unfold updB
    by_cases hs : s = t
    · rw [if_pos hs, if_neg (by omega), if_pos hs]
    · rw [if_neg hs, if_neg hs]
  · have hc := cst_tak hg e1
    have hv := cst_v hg e1
    rw [dec_p ⟨hc.2.1, hc.2.2.1⟩, if_pos rfl, if_pos rfl, hc.1]
    unfold pl1
    rw [if_neg (fun z => hc.2.2.2 z.1)]
    have hm : (f + t) / 2 = f + 1 ∧ t = f + 2 ∧ rkA f t = f + 3 ∨ (f + t) / 2 = f - 1 ∧ t = f - 2 ∧ rkA f t = f - 4 := by omega
    generalize (f + t) / 2 = m at *
    generalize rkA f t = k at *
    funext s
    unfold updB
    by_cases h1 : s = k
    · rw [if_pos h1, if_neg (by omega), if_neg (by omega), if_pos h1]
    · rw [if_neg h1]
      by_cases h2 : s = m
      · rw [if_pos h2, if_neg (by omega), if_neg (by omega), if_neg (by omega), if_neg (by omega), if_neg (by omega), if_neg h1, if_pos h2]
      · rw [if_neg h2]
        by_cases h3 : s = t
        · rw [if_pos h3, if_neg (by omega), if_pos h3]
        · rw [if_neg h3, if_neg h3, if_neg h3, if_neg h1, if_neg h2]
/-- what stands at the end of a move -/
def mvV (b : Int → Int) (sd f q : Int) : Int := if 0 < q then q + 8 * sd else b f
theorem pl_A {b : Int → Int} {sd ps f t q : Int} (e2 : ¬ (b f % 8 = 6 ∧ csC f t)) (e3 : ¬ (b f % 8 = 1 ∧ t = ps)) : plB b sd ps f t q = updB (updB b t (mvV b sd f q)) f 0 := by
  unfold plB pl2 pl1
  rw [dec_n e2, if_neg (by decide), if_neg (fun z => e3 ⟨z.1, z.2.1⟩)]
  rfl
theorem pl_B {b : Int → Int} {sd ps f t q : Int} (e1 : b f % 8 = 1) (e2 : t = ps) (e7 : ¬ t % 8 = f % 8) : plB b sd ps f t q = updB (updB (updB b (t - ahd sd) 0) t (mvV b sd f q)) f 0 := by
  unfold plB pl2 pl1
  rw [dec_n (fun z => by have := z.1; omega), if_neg (by decide), if_pos ⟨e1, e2, e7⟩]
  rfl
theorem pl_C {b : Int → Int} {sd ps f t q : Int} (e1 : b f % 8 = 6) (e2 : csC f t) : plB b sd ps f t q = updB (updB (updB (updB b ((f + t) / 2) (b (rkA f t))) (rkA f t) 0) t (mvV b sd f q)) f 0 := by
  unfold plB pl2 pl1
  rw [dec_p ⟨e1, e2⟩, if_pos rfl, if_neg (fun z => by have := z.1; omega)]
  rfl
theorem sum_play {F b : Int → Int} {sd r ps f t q : Int} (hg : gp0 b sd r ps) (hf : 0 ≤ f ∧ f < 64) (ht : 0 ≤ t ∧ t < 64) (h : gosS b sd r ps f t q) : sumF (fun s => F (plB b sd ps f t q s)) 64 = sumF (fun s => F (b s)) 64 + F (mvV b sd f q) + F 0 - F (b f) - F (b (takA b sd ps f t)) := by
  have hne := gos_ne h
  rcases gos_knd hg hf ht h with ⟨e1, e2, e3⟩ | ⟨⟨e1, e2, e3⟩, e4, e5, e6, e7⟩ | ⟨e1, e2⟩
  · rw [pl_A e2 e3, sumF_upd hf.1 (by omega), sumF_upd ht.1 (by omega), updB_ne hne, e1]
    omega
  · have hsd := hg.sd
    have ha := ahd_v hsd
    rw [pl_B (by omega) e2 e7, sumF_upd hf.1 (by omega), sumF_upd ht.1 (by omega), sumF_upd (by omega) (by omega), updB_ne hne, updB_ne (by omega), updB_ne (by omega), e3, e4.1]
    omega
  · have hc := cst_tak hg e1
    have hv := cst_v hg e1
    have hh := hm_v hg.sd
    rw [pl_C hc.2.1 hc.2.2.1, sumF_upd hf.1 (by omega), sumF_upd ht.1 (by omega), sumF_upd (by omega) (by omega), sumF_upd (by omega) (by omega), updB_ne hne, updB_ne (by omega), updB_ne (by omega), updB_ne (by omega), updB_ne (by omega), updB_ne (by omega), hc.1, hv.2.2.1, hv.2.2.2.1]
    omega
theorem pl_f {b : Int → Int} {sd ps f t q : Int} : plB b sd ps f t q f = 0 := updB_eq
theorem pl_t {b : Int → Int} {sd ps f t q : Int} (h : ¬ f = t) : plB b sd ps f t q t = mvV b sd f q := by
  unfold plB
  rw [updB_ne (by omega), updB_eq]
  rfl
theorem pl_any {b : Int → Int} {sd r ps f t q : Int} (hg : gp0 b sd r ps) (hf : 0 ≤ f ∧ f < 64) (ht : 0 ≤ t ∧ t < 64) (h : gosS b sd r ps f t q) (s : Int) : (s = f ∧ plB b sd ps f t q s = 0) ∨ (s = t ∧ plB b sd ps f t q s = mvV b sd f q) ∨ (s = takA b sd ps f t ∧ ¬ s = t ∧ plB b sd ps f t q s = 0 ∧ b s = 1 + 8 * (1 - sd) ∧ 8 ≤ s ∧ s < 56) ∨ (cstS b r sd f t ∧ s = rkA f t ∧ plB b sd ps f t q s = 0 ∧ b s = 4 + 8 * sd) ∨ (cstS b r sd f t ∧ s = (f + t) / 2 ∧ plB b sd ps f t q s = 4 + 8 * sd ∧ b s = 0) ∨ ((¬ s = f ∧ ¬ s = t ∧ ¬ s = takA b sd ps f t ∧ (cstS b r sd f t → ¬ s = rkA f t ∧ ¬ s = (f + t) / 2)) ∧ plB b sd ps f t q s = b s) := by
  have hne := gos_ne h
  by_cases s1 : s = f
  · left; exact ⟨s1, by rw [s1]; exact pl_f⟩
  · right
    by_cases s2 : s = t
    · left; exact ⟨s2, by rw [s2]; exact pl_t hne⟩
    · right
      rcases gos_knd hg hf ht h with ⟨e1, e2, e3⟩ | ⟨⟨e1, e2, e3⟩, e4, e5, e6, e7⟩ | ⟨e1, e2⟩
      · right; right; right
        refine ⟨⟨s1, s2, by rw [e1]; exact s2, fun z => absurd ⟨(cst_tak hg z).2.1, (cst_tak hg z).2.2.1⟩ e2⟩, ?_⟩
        rw [pl_A e2 e3, updB_ne s1, updB_ne s2]
      · have hsd := hg.sd
        have ha := ahd_v hsd
        rw [pl_B (by omega) e2 e7, updB_ne s1, updB_ne s2, e3]
        by_cases s3 : s = t - ahd sd
        · left
          refine ⟨s3, s2, by rw [s3]; exact updB_eq, by rw [s3]; exact e4.2, by omega, by omega⟩
        · right; right; right
          exact ⟨⟨s1, s2, s3, fun z => by have := (cst_tak hg z).2.1; omega⟩, updB_ne s3⟩
      · have hc := cst_tak hg e1
        have hv := cst_v hg e1
        have hrk : b (rkA f t) = 4 + 8 * sd := by
          rcases hv.2.2.2.2 with z | z
          · rw [z.2.1]; exact z.2.2
          · rw [z.2.1]; exact z.2.2
        rw [pl_C hc.2.1 hc.2.2.1, updB_ne s1, updB_ne s2]
        by_cases s3 : s = rkA f t
        · right; left
          exact ⟨e1, s3, by rw [s3]; exact updB_eq, by rw [s3]; exact hrk⟩
        · rw [updB_ne s3]
          by_cases s4 : s = (f + t) / 2
          · right; right; left
            exact ⟨e1, s4, by rw [s4, updB_eq]; exact hrk, by rw [s4]; exact hv.2.2.2.1⟩
          · right; right; right
            exact ⟨⟨s1, s2, by rw [hc.1]; exact s2, fun _ => ⟨s3, s4⟩⟩, updB_ne s4⟩
