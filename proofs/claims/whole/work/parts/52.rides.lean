/-! Rides: what the class adds for a piece is what the piece hits. -/
noncomputable def rl (b : Int → Int) (sd fr : Int) : List Int → List Int
  | [] => []
  | t :: l => (if dec (ofS (b t) sd) = 1 then [] else [512 * fr + 8 * t]) ++ (if b t = 0 then rl b sd fr l else [])
theorem ride_rl (b : Int → Int) (sd fr df dr : Int) : ∀ (k : Nat) (f r : Int), rideL b sd fr df dr k f r = rl b sd fr (ray df dr k f r)
  | 0, _, _ => rfl
  | k + 1, f, r => by
    unfold rideL ray
    by_cases h : onB (f + df) (r + dr) = true
    · rw [if_pos (onB_iff.mp h), h]
      show _ = (if dec (ofS (b (8 * (r + dr) + (f + df))) sd) = 1 then [] else [512 * fr + 8 * (8 * (r + dr) + (f + df))]) ++ (if b (8 * (r + dr) + (f + df)) = 0 then rl b sd fr _ else [])
      rw [ride_rl b sd fr df dr k]
      congr 1
      by_cases ho : ofS (b (8 * (r + dr) + (f + df))) sd
      · rw [if_pos (show b (8 * (r + dr) + (f + df)) ≠ 0 ∧ b (8 * (r + dr) + (f + df)) / 8 = sd from ho), if_pos (dec_p ho)]
      · rw [if_neg (show ¬ (b (8 * (r + dr) + (f + df)) ≠ 0 ∧ b (8 * (r + dr) + (f + df)) / 8 = sd) from ho), if_neg (by rw [dec_n ho]; decide)]
    · rw [if_neg (fun z => h (onB_iff.mpr z))]
      rw [Bool.not_eq_true] at h
      rw [h]
      rfl
theorem rl_sub {b : Int → Int} {sd fr : Int} : ∀ l : List Int, (rl b sd fr l).Sublist (l.map (fun t => 512 * fr + 8 * t))
  | [] => List.Sublist.slnil
  | t :: l => by
    have ih := rl_sub (b := b) (sd := sd) (fr := fr) l
    show ((if dec (ofS (b t) sd) = 1 then [] else [512 * fr + 8 * t]) ++ (if b t = 0 then rl b sd fr l else [])).Sublist ((512 * fr + 8 * t) :: l.map (fun t => 512 * fr + 8 * t))
    have h2 : (if b t = 0 then rl b sd fr l else []).Sublist (l.map (fun t => 512 * fr + 8 * t)) := by
      split
      · exact ih
      · exact List.nil_sublist _
    by_cases hd : dec (ofS (b t) sd) = 1
    · rw [if_pos hd]
      exact h2.cons _
    · rw [if_neg hd]
      exact h2.cons₂ _
theorem rl_mem {b : Int → Int} {sd fr x : Int} : ∀ {l : List Int}, x ∈ rl b sd fr l ↔ ∃ (j : Nat) (t : Int), l[j]? = some t ∧ x = 512 * fr + 8 * t ∧ ¬ ofS (b t) sd ∧ ∀ y ∈ l.take j, b y = 0
  | [] => by simp [rl]
  | t :: l => by
    have ih := rl_mem (b := b) (sd := sd) (fr := fr) (x := x) (l := l)
    show x ∈ (if dec (ofS (b t) sd) = 1 then [] else [512 * fr + 8 * t]) ++ (if b t = 0 then rl b sd fr l else []) ↔ _
    rw [List.mem_append]
    constructor
    · rintro (h | h)
      · by_cases hd : dec (ofS (b t) sd) = 1
        · rw [if_pos hd] at h; simp at h
        · rw [if_neg hd] at h
          refine ⟨0, t, rfl, List.mem_singleton.mp h, fun z => hd (dec_p z), by simp⟩
      · by_cases h0 : b t = 0
        · rw [if_pos h0] at h
          obtain ⟨j, u, a1, a2, a3, a4⟩ := ih.mp h
          refine ⟨j + 1, u, a1, a2, a3, ?_⟩
          intro y hy
          rw [List.take_succ_cons, List.mem_cons] at hy
          rcases hy with hy | hy
          · rw [hy]; exact h0
          · exact a4 y hy
        · rw [if_neg h0] at h; simp at h
    · rintro ⟨j, u, a1, a2, a3, a4⟩
      cases j with
      | zero =>
        left
        simp only [List.getElem?_cons_zero, Option.some.injEq] at a1
        subst a1
        rw [if_neg (fun z => a3 (of_dec z))]
        rw [a2]; simp
      | succ j =>
        right
        have h0 : b t = 0 := a4 t (by simp)
        rw [if_pos h0]
        refine ih.mpr ⟨j, u, a1, a2, a3, fun y hy => a4 y ?_⟩
        rw [List.take_succ_cons]
        exact List.mem_cons_of_mem _ hy
theorem ray_1 (df dr : Int) (k : Nat) (f r : Int) : ray df dr 1 f r = (ray df dr (k + 1) f r).take 1 := by
  unfold ray
  cases onB (f + df) (r + dr)
  · rfl
  · rfl
theorem leap_ray (df dr f r : Int) : ray df dr 1 f r = (match onB (f + df) (r + dr) with
  | true => [8 * (r + dr) + (f + df)]
  | false => []) := by
  unfold ray
  cases onB (f + df) (r + dr)
  · rfl
  · rfl
/-- the places of one way, for the piece that stands there -/
def wayL (b : Int → Int) (fr : Int) (w : Nat) : List Int := if b fr % 8 = 2 then ray (LF.getD w 0) (LR.getD w 0) 1 (fr % 8) (fr / 8) else if b fr % 8 = 6 then (raySq fr w).take 1 else if b fr % 8 = 5 ∨ diag w = decide (b fr % 8 = 3) then raySq fr w else []
theorem rdW_way {b : Int → Int} {sd fr : Int} {w : Nat} (hw : w < 8) : rdW b sd fr w = rl b sd fr (wayL b fr w) := by
  obtain ⟨t1, t2, t3, t4⟩ := way_t w hw
  obtain ⟨d1, -⟩ := way_d w hw
  unfold rdW wayL
  rw [t1, t2, t3, t4]
  by_cases k2 : b fr % 8 = 2
  · rw [if_pos k2, if_pos k2, ride_rl]
  · rw [if_neg k2, if_neg k2]
    by_cases k6 : b fr % 8 = 6
    · rw [if_pos k6, if_pos k6, ride_rl, ray_1 _ _ 6]
      rfl
    · rw [if_neg k6, if_neg k6]
      have hc : (dec (dgW w) = (if b fr % 8 = 3 then 1 else 0)) ↔ diag w = decide (b fr % 8 = 3) := by
        have hd : dgW w ↔ diag w = true := by unfold dgW; rw [t1, t2]; exact d1
        by_cases h1 : diag w = true
        · rw [dec_p (hd.mpr h1), h1]
          by_cases k3 : b fr % 8 = 3 <;> simp [k3]
        · rw [dec_n (fun z => h1 (hd.mp z))]
          rw [Bool.not_eq_true] at h1
          rw [h1]
          by_cases k3 : b fr % 8 = 3 <;> simp [k3]
      by_cases hh : b fr % 8 = 5 ∨ diag w = decide (b fr % 8 = 3)
      · rw [if_pos hh, if_pos (hh.imp id hc.mpr), ride_rl]
        rfl
      · rw [if_neg hh, if_neg (fun z => hh (z.imp id hc.mp))]
        rfl
theorem rds_eq {b : Int → Int} {sd fr : Int} : ∀ n : Nat, n ≤ 8 → rdsL b sd fr n = (List.range n).flatMap (fun w => rl b sd fr (wayL b fr w))
  | 0, _ => rfl
  | n + 1, hn => by
    unfold rdsL
    rw [rds_eq n (by omega), rdW_way (by omega), List.range_succ, List.flatMap_append]
    simp
theorem flat_fm {α β : Type} {f : α → List β} {g : α → Option β} : ∀ (l : List α), (∀ x, f x = (g x).toList) → l.flatMap f = l.filterMap g
  | [], _ => rfl
  | x :: l, h => by
    rw [List.flatMap_cons, flat_fm l h, h x]
    cases hg : g x with
    | none => rw [List.filterMap_cons_none hg]; rfl
    | some y => rw [List.filterMap_cons_some hg]; rfl
theorem leaps_flat (fr : Int) : (List.range 8).flatMap (fun w => ray (LF.getD w 0) (LR.getD w 0) 1 (fr % 8) (fr / 8)) = leapSq fr := by
  unfold leapSq
  refine flat_fm _ (fun w => ?_)
  rw [leap_ray]
  cases onB (fr % 8 + LF.getD w 0) (fr / 8 + LR.getD w 0) <;> rfl
theorem sub_flat {α β : Type} {f g : α → List β} : ∀ {l : List α}, (∀ x ∈ l, (f x).Sublist (g x)) → (l.flatMap f).Sublist (l.flatMap g)
  | [], _ => List.Sublist.slnil
  | x :: l, h => by
    rw [List.flatMap_cons, List.flatMap_cons]
    exact (h x (by simp)).append (sub_flat (fun y hy => h y (by simp [hy])))
theorem map_flat {α β γ : Type} (f : α → List β) (g : β → γ) (l : List α) : l.flatMap (fun x => (f x).map g) = (l.flatMap f).map g := by
  induction l with
  | nil => rfl
  | cons x l ih => rw [List.flatMap_cons, List.flatMap_cons, List.map_append, ih]
/-- the places that a piece of that kind may go to on an empty board -/
def plcL (b : Int → Int) (fr : Int) : List Int := (List.range 8).flatMap (wayL b fr)
theorem rds_sub {b : Int → Int} {sd fr : Int} : (rdsL b sd fr 8).Sublist ((plcL b fr).map (fun t => 512 * fr + 8 * t)) := by
  rw [rds_eq 8 (by omega)]
  unfold plcL
  rw [← map_flat]
  exact sub_flat (fun w _ => rl_sub _)
theorem plc_sub {b : Int → Int} {fr : Int} : (plcL b fr).Sublist (raysOf fr) ∨ plcL b fr = leapSq fr := by
  unfold plcL
  by_cases k2 : b fr % 8 = 2
  · right
    rw [← leaps_flat]
    congr 1
    funext w
    unfold wayL
    rw [if_pos k2]
  · left
    unfold raysOf
    refine sub_flat (fun w _ => ?_)
    unfold wayL
    rw [if_neg k2]
    split
    · exact List.take_sublist _ _
    · split
      · exact List.Sublist.refl _
      · exact List.nil_sublist _
theorem sq64_nd : sq64.Nodup := by decide +kernel
theorem all_nd {sq : Int} (hs : 0 ≤ sq ∧ sq < 64) : (sq :: (raysOf sq ++ (leapSq sq ++ restOf sq))).Nodup := by
  obtain ⟨n, rfl⟩ := Int.eq_ofNat_of_zero_le hs.1
  exact (List.isPerm_iff.mp (geo_perm n (by omega))).nodup_iff.mpr sq64_nd
theorem plc_nd {b : Int → Int} {fr : Int} (hs : 0 ≤ fr ∧ fr < 64) : (plcL b fr).Nodup := by
  have h1 := all_nd hs
  rw [List.nodup_cons, List.nodup_append] at h1
  obtain ⟨-, h2, h3, -⟩ := h1
  rw [List.nodup_append] at h3
  rcases plc_sub (b := b) (fr := fr) with h | h
  · exact h.nodup h2
  · rw [h]; exact h3.1
theorem nd_map {l : List Int} {fr : Int} (h : l.Nodup) : (l.map (fun t => 512 * fr + 8 * t)).Nodup := by
  rw [List.nodup_iff_pairwise_ne] at *
  rw [List.pairwise_map]
  exact h.imp (fun hne => by omega)
theorem rds_nd {b : Int → Int} {sd fr : Int} (hs : 0 ≤ fr ∧ fr < 64) : (rdsL b sd fr 8).Nodup := rds_sub.nodup (nd_map (plc_nd hs))
theorem flat_len {f : Nat → List Int} {c : Nat} : ∀ {n : Nat}, (∀ w, (f w).length ≤ c) → ((List.range n).flatMap f).length ≤ n * c
  | 0, _ => by simp
  | n + 1, h => by
    rw [List.range_succ, List.flatMap_append, List.length_append]
    have := flat_len (n := n) h
    have h2 := h n
    have e1 : [n].flatMap f = f n := by
      rw [List.flatMap_cons]
      exact List.append_nil _
    rw [e1, Nat.add_mul]
    omega
theorem rds_len {b : Int → Int} {sd fr : Int} (hs : 0 ≤ fr ∧ fr < 64) : (rdsL b sd fr 8).length ≤ (if b fr % 8 = 6 then 8 else 27) := by
  have h1 := rds_sub (b := b) (sd := sd) (fr := fr) |>.length_le
  rw [List.length_map] at h1
  by_cases k6 : b fr % 8 = 6
  · rw [if_pos k6]
    have : (plcL b fr).length ≤ 8 * 1 := by
      unfold plcL
      refine flat_len (fun w => ?_)
      unfold wayL
      rw [if_neg (by omega), if_pos k6, List.length_take]
      omega
    omega
  · rw [if_neg k6]
    have hl : (raysOf fr).length ≤ 27 ∧ (leapSq fr).length ≤ 8 := by
      obtain ⟨n, rfl⟩ := Int.eq_ofNat_of_zero_le hs.1
      exact geo_len n (by omega)
    rcases plc_sub (b := b) (fr := fr) with h | h
    · have := h.length_le
      omega
    · rw [h] at h1; omega
theorem rds_mem {b : Int → Int} {sd fr x : Int} : x ∈ rdsL b sd fr 8 ↔ ∃ w, w < 8 ∧ ∃ (j : Nat) (t : Int), (wayL b fr w)[j]? = some t ∧ x = 512 * fr + 8 * t ∧ ¬ ofS (b t) sd ∧ ∀ y ∈ (wayL b fr w).take j, b y = 0 := by
  rw [rds_eq 8 (by omega), List.mem_flatMap]
  constructor
  · rintro ⟨w, hw, hx⟩
    exact ⟨w, List.mem_range.mp hw, rl_mem.mp hx⟩
  · rintro ⟨w, hw, hx⟩
    exact ⟨w, List.mem_range.mpr hw, rl_mem.mpr hx⟩
theorem leap_of {b : Int → Int} {fr t : Int} {w j : Nat} (hw : w < 8) (k2 : b fr % 8 = 2) (h : (wayL b fr w)[j]? = some t) : t ∈ leapSq fr ∧ j = 0 := by
  unfold wayL at h
  rw [if_pos k2] at h
  refine ⟨?_, ?_⟩
  · rw [← leaps_flat, List.mem_flatMap]
    exact ⟨w, List.mem_range.mpr hw, List.mem_of_getElem? h⟩
  · rw [leap_ray] at h
    cases hb : onB (fr % 8 + LF.getD w 0) (fr / 8 + LR.getD w 0)
    · rw [hb] at h; simp at h
    · rw [hb] at h
      cases j with
      | zero => rfl
      | succ j => simp at h
theorem leap_facts {fr t : Int} (hs : 0 ≤ fr ∧ fr < 64) (h : t ∈ leapSq fr) : (0 ≤ t ∧ t < 64) ∧ gkn fr t = true ∧ gsl fr t = false ∧ gln fr t = false ∧ gkg fr t = false := by
  have hlo : leapOk fr t = true := by
    obtain ⟨n, rfl⟩ := Int.eq_ofNat_of_zero_le hs.1
    exact List.all_eq_true.mp (geo_leap n (by omega)) t h
  unfold leapOk at hlo
  simp only [Bool.and_eq_true, beq_iff_eq, decide_eq_true_eq] at hlo
  obtain ⟨-, a7, a8, a9, a10, a11⟩ := hlo
  exact ⟨a7, a8, a9, a10, a11⟩
/-- riders, knights and kings: the class's rides are the reference's hits -/
theorem rds_hit {b : Int → Int} {sd fr x : Int} (hs : 0 ≤ fr ∧ fr < 64) (hk : 2 ≤ b fr % 8 ∧ b fr % 8 ≤ 6) : x ∈ rdsL b sd fr 8 ↔ ∃ t, (0 ≤ t ∧ t < 64) ∧ x = 512 * fr + 8 * t ∧ ¬ ofS (b t) sd ∧ hitS b fr t := by
  rw [rds_mem]
  constructor
  · rintro ⟨w, hw, j, t, hj, hx, ho, he⟩
    by_cases k2 : b fr % 8 = 2
    · obtain ⟨hm, -⟩ := leap_of hw k2 hj
      have hf := leap_facts hs hm
      exact ⟨t, hf.1, hx, ho, Or.inr (Or.inl ⟨k2, hf.2.1⟩)⟩
    · unfold wayL at hj he
      rw [if_neg k2] at hj he
      by_cases k6 : b fr % 8 = 6
      · rw [if_pos k6] at hj
        have hj0 : j = 0 ∧ (raySq fr w)[j]? = some t := by
          rw [List.getElem?_take] at hj
          split at hj
          · exact ⟨by omega, hj⟩
          · simp at hj
        have hat := ray_sq hs hw hj0.2
        refine ⟨t, hat.inb, hx, ho, Or.inr (Or.inr (Or.inr (Or.inr (Or.inr ⟨k6, ?_⟩))))⟩
        rw [hat.kg2, hj0.1]
        rfl
      · rw [if_neg k6] at hj he
        by_cases hh : b fr % 8 = 5 ∨ diag w = decide (b fr % 8 = 3)
        · rw [if_pos hh] at hj he
          have hat := ray_sq hs hw hj
          have hop : opnP b fr t := by
            intro y hy
            rw [hat.pf] at hy
            exact he y hy
          refine ⟨t, hat.inb, hx, ho, ?_⟩
          rcases hh with k5 | hd
          · refine Or.inr (Or.inr (Or.inr (Or.inr (Or.inl ⟨k5, ?_, hop⟩))))
            rw [hat.sl2, hat.ln2]
            cases diag w <;> simp
          · by_cases k3 : b fr % 8 = 3
            · refine Or.inr (Or.inr (Or.inl ⟨k3, ?_, hop⟩))
              rw [hat.sl2, hd]
              simp [k3]
            · by_cases k5 : b fr % 8 = 5
              · refine Or.inr (Or.inr (Or.inr (Or.inr (Or.inl ⟨k5, ?_, hop⟩))))
                rw [hat.sl2, hat.ln2]
                cases diag w <;> simp
              · refine Or.inr (Or.inr (Or.inr (Or.inl ⟨by omega, ?_, hop⟩)))
                rw [hat.ln2, hd]
                simp [k3]
        · rw [if_neg hh] at hj; simp at hj
  · rintro ⟨t, ht, hx, ho, hh⟩
    have hmem : t ∈ fr :: (raysOf fr ++ (leapSq fr ++ restOf fr)) := by
      obtain ⟨n, rfl⟩ := Int.eq_ofNat_of_zero_le hs.1
      obtain ⟨m, rfl⟩ := Int.eq_ofNat_of_zero_le ht.1
      refine (List.isPerm_iff.mp (geo_perm n (by omega))).mem_iff.mpr ?_
      exact List.mem_map.mpr ⟨m, List.mem_range.mpr (by omega), rfl⟩
    have norest : ∀ u, restOk fr u = true → ¬ t = u := by
      intro u hu hu2
      subst hu2
      unfold restOk at hu
      simp only [Bool.and_eq_true, beq_iff_eq] at hu
      obtain ⟨-, a1, a2, a3, a4⟩ := hu
      rcases hh with h | h | h | h | h | h
      · omega
      · rw [a1] at h; exact absurd h.2 (by decide)
      · rw [a2] at h; exact absurd h.2.1 (by decide)
      · rw [a3] at h; exact absurd h.2.1 (by decide)
      · rw [a2, a3] at h; exact absurd h.2.1 (by decide)
      · rw [a4] at h; exact absurd h.2 (by decide)
    rw [List.mem_cons, List.mem_append, List.mem_append] at hmem
    rcases hmem with h0 | h0 | h0 | h0
    · refine absurd h0 (norest fr ?_)
      obtain ⟨n, rfl⟩ := Int.eq_ofNat_of_zero_le hs.1
      exact geo_self n (by omega)
    · unfold raysOf at h0
      rw [List.mem_flatMap] at h0
      obtain ⟨w, hw, hm⟩ := h0
      have hw := List.mem_range.mp hw
      obtain ⟨j, hj⟩ := List.getElem?_of_mem hm
      have hat := ray_sq hs hw hj
      refine ⟨w, hw, ?_⟩
      unfold wayL
      rcases hh with h | h | h | h | h | h
      · omega
      · rw [hat.kn2] at h; exact absurd h.2 (by decide)
      · rw [if_neg (by omega), if_neg (by omega), if_pos (Or.inr (by rw [← hat.sl2, h.2.1]; simp [h.1]))]
        exact ⟨j, t, hj, hx, ho, fun y hy => h.2.2 y (by rw [hat.pf]; exact hy)⟩
      · have hd : diag w = false := by
          have := hat.ln2
          rw [h.2.1] at this
          cases hdw : diag w
          · rfl
          · rw [hdw] at this; exact absurd this (by decide)
        rw [if_neg (by omega), if_neg (by omega), if_pos (Or.inr (by rw [hd]; simp [h.1]))]
        exact ⟨j, t, hj, hx, ho, fun y hy => h.2.2 y (by rw [hat.pf]; exact hy)⟩
      · rw [if_neg (by omega), if_neg (by omega), if_pos (Or.inl h.1)]
        exact ⟨j, t, hj, hx, ho, fun y hy => h.2.2 y (by rw [hat.pf]; exact hy)⟩
      · rw [if_neg (by omega), if_pos h.1]
        have hj0 : j = 0 := by
          have := hat.kg2
          rw [h.2] at this
          exact beq_iff_eq.mp this.symm
        refine ⟨j, t, ?_, hx, ho, fun y hy => ?_⟩
        · rw [List.getElem?_take, if_pos (by omega)]; exact hj
        · rw [hj0] at hy; simp at hy
    · have hf := leap_facts hs h0
      have k2 : b fr % 8 = 2 := by
        rcases hh with h | h | h | h | h | h
        · omega
        · exact h.1
        · rw [hf.2.2.1] at h; exact absurd h.2.1 (by decide)
        · rw [hf.2.2.2.1] at h; exact absurd h.2.1 (by decide)
        · rw [hf.2.2.1, hf.2.2.2.1] at h; exact absurd h.2.1 (by decide)
        · rw [hf.2.2.2.2] at h; exact absurd h.2 (by decide)
      rw [← leaps_flat, List.mem_flatMap] at h0
      obtain ⟨w, hw, hm⟩ := h0
      have hw := List.mem_range.mp hw
      obtain ⟨j, hj⟩ := List.getElem?_of_mem hm
      have hj2 : (wayL b fr w)[j]? = some t := by unfold wayL; rw [if_pos k2]; exact hj
      have := (leap_of hw k2 hj2).2
      refine ⟨w, hw, j, t, hj2, hx, ho, fun y hy => ?_⟩
      rw [this] at hy; simp at hy
    · refine absurd rfl (norest t ?_)
      obtain ⟨n, rfl⟩ := Int.eq_ofNat_of_zero_le hs.1
      exact List.all_eq_true.mp (geo_rest n (by omega)) t h0
