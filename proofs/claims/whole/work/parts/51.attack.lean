/-! Attackers, counted by looking out, are those that hit. -/
def lsum (f : Int → Int) : List Int → Int
  | [] => 0
  | x :: l => f x + lsum f l
theorem lsum_app (f : Int → Int) : ∀ l m : List Int, lsum f (l ++ m) = lsum f l + lsum f m
  | [], m => by simp [lsum]
  | x :: l, m => by
    have := lsum_app f l m
    show f x + lsum f (l ++ m) = f x + lsum f l + lsum f m
    omega
theorem lsum_perm (f : Int → Int) {l m : List Int} (h : l.Perm m) : lsum f l = lsum f m := by
  induction h with
  | nil => rfl
  | cons x _ ih => show f x + _ = f x + _; rw [ih]
  | swap x y l => show f y + (f x + lsum f l) = f x + (f y + lsum f l); omega
  | trans _ _ ih1 ih2 => rw [ih1, ih2]
theorem lsum_zero {f : Int → Int} : ∀ {l : List Int}, (∀ x ∈ l, f x = 0) → lsum f l = 0
  | [], _ => rfl
  | x :: l, h => by
    show f x + lsum f l = 0
    rw [h x (by simp), lsum_zero (l := l) (fun y hy => h y (by simp [hy]))]
    rfl
theorem lsum_range (f : Int → Int) : ∀ n : Nat, lsum f ((List.range n).map (fun (n : Nat) => (n : Int))) = sumF f n
  | 0 => rfl
  | n + 1 => by
    rw [List.range_succ, List.map_append, lsum_app, lsum_range f n]
    show _ + (f n + 0) = sumF f n + f n
    omega
theorem sum_split {f : Int → Int} {sq : Int} (hs : 0 ≤ sq ∧ sq < 64) : sumF f 64 = f sq + (lsum f (raysOf sq) + (lsum f (leapSq sq) + lsum f (restOf sq))) := by
  obtain ⟨n, rfl⟩ := Int.eq_ofNat_of_zero_le hs.1
  have hp := List.isPerm_iff.mp (geo_perm n (by omega))
  have := lsum_perm f hp
  rw [← lsum_range]
  show lsum f sq64 = _
  rw [← this]
  show f n + lsum f (raysOf n ++ (leapSq n ++ restOf n)) = _
  rw [lsum_app, lsum_app]
def RayAt (sq : Int) (w : Nat) (r : List Int) (i : Nat) (t : Int) : Prop := (gsl t sq = diag w) ∧ (gln t sq = !diag w) ∧ (gkn t sq = false) ∧ (gkg t sq = (i == 0)) ∧ (path t sq = (r.take i).reverse) ∧ (path sq t = r.take i) ∧ (gsl sq t = diag w) ∧ (gln sq t = !diag w) ∧ (gkn sq t = false) ∧ (gkg sq t = (i == 0)) ∧ (gpw 1 t sq = ((i == 0) && (diag w && (WR.getD w 0 == -1)))) ∧ (gpw (-1) t sq = ((i == 0) && (diag w && (WR.getD w 0 == 1)))) ∧ (0 ≤ t ∧ t < 64) ∧ (t - sq = ((i : Int) + 1) * (8 * WR.getD w 0 + WF.getD w 0))
theorem RayAt.sl {sq : Int} {w : Nat} {r : List Int} {i : Nat} {t : Int} (h : RayAt sq w r i t) : gsl t sq = diag w := h.1
theorem RayAt.ln {sq : Int} {w : Nat} {r : List Int} {i : Nat} {t : Int} (h : RayAt sq w r i t) : gln t sq = !diag w := h.2.1
theorem RayAt.kn {sq : Int} {w : Nat} {r : List Int} {i : Nat} {t : Int} (h : RayAt sq w r i t) : gkn t sq = false := h.2.2.1
theorem RayAt.kg {sq : Int} {w : Nat} {r : List Int} {i : Nat} {t : Int} (h : RayAt sq w r i t) : gkg t sq = (i == 0) := h.2.2.2.1
theorem RayAt.pt {sq : Int} {w : Nat} {r : List Int} {i : Nat} {t : Int} (h : RayAt sq w r i t) : path t sq = (r.take i).reverse := h.2.2.2.2.1
theorem RayAt.pf {sq : Int} {w : Nat} {r : List Int} {i : Nat} {t : Int} (h : RayAt sq w r i t) : path sq t = r.take i := h.2.2.2.2.2.1
theorem RayAt.sl2 {sq : Int} {w : Nat} {r : List Int} {i : Nat} {t : Int} (h : RayAt sq w r i t) : gsl sq t = diag w := h.2.2.2.2.2.2.1
theorem RayAt.ln2 {sq : Int} {w : Nat} {r : List Int} {i : Nat} {t : Int} (h : RayAt sq w r i t) : gln sq t = !diag w := h.2.2.2.2.2.2.2.1
theorem RayAt.kn2 {sq : Int} {w : Nat} {r : List Int} {i : Nat} {t : Int} (h : RayAt sq w r i t) : gkn sq t = false := h.2.2.2.2.2.2.2.2.1
theorem RayAt.kg2 {sq : Int} {w : Nat} {r : List Int} {i : Nat} {t : Int} (h : RayAt sq w r i t) : gkg sq t = (i == 0) := h.2.2.2.2.2.2.2.2.2.1
theorem RayAt.p1 {sq : Int} {w : Nat} {r : List Int} {i : Nat} {t : Int} (h : RayAt sq w r i t) : gpw 1 t sq = ((i == 0) && (diag w && (WR.getD w 0 == -1))) := h.2.2.2.2.2.2.2.2.2.2.1
theorem RayAt.p2 {sq : Int} {w : Nat} {r : List Int} {i : Nat} {t : Int} (h : RayAt sq w r i t) : gpw (-1) t sq = ((i == 0) && (diag w && (WR.getD w 0 == 1))) := h.2.2.2.2.2.2.2.2.2.2.2.1
theorem RayAt.inb {sq : Int} {w : Nat} {r : List Int} {i : Nat} {t : Int} (h : RayAt sq w r i t) : 0 ≤ t ∧ t < 64 := h.2.2.2.2.2.2.2.2.2.2.2.2.1
theorem RayAt.df {sq : Int} {w : Nat} {r : List Int} {i : Nat} {t : Int} (h : RayAt sq w r i t) : t - sq = ((i : Int) + 1) * (8 * WR.getD w 0 + WF.getD w 0) := h.2.2.2.2.2.2.2.2.2.2.2.2.2
theorem ray_at {sq : Int} {w : Nat} {r : List Int} : ∀ {l : List Int} {i : Nat}, rayOk sq w r i l = true → ∀ (j : Nat) (t : Int), l[j]? = some t → RayAt sq w r (i + j) t
  | [], i, _, j, t, hj => by simp at hj
  | x :: l, i, h, j, t, hj => by
    unfold rayOk at h
    simp only [Bool.and_eq_true, beq_iff_eq, decide_eq_true_eq] at h
    obtain ⟨⟨⟨⟨⟨a1, a2⟩, a3, a4⟩, ⟨a5, a6⟩, a7, a8⟩, ⟨a9, a10⟩, ⟨a11, a12⟩, ⟨a13, a14⟩, a15⟩, hrest⟩ := h
    cases j with
    | zero =>
      simp only [List.getElem?_cons_zero, Option.some.injEq] at hj
      subst hj
      exact ⟨a1, a2, a3, a4, a5, a6, a7, a8, a9, a10, a11, a12, ⟨a13, a14⟩, a15⟩
    | succ j =>
      rw [List.getElem?_cons_succ] at hj
      have := ray_at hrest j t hj
      rw [show i + (j + 1) = i + 1 + j by omega]
      exact this
theorem ray_sq {sq : Int} {w : Nat} (hs : 0 ≤ sq ∧ sq < 64) (hw : w < 8) {j : Nat} {t : Int} (hj : (raySq sq w)[j]? = some t) : RayAt sq w (raySq sq w) j t := by
  obtain ⟨n, rfl⟩ := Int.eq_ofNat_of_zero_le hs.1
  have := ray_at (geo_ray n (by omega) w hw) j t hj
  rw [Nat.zero_add] at this
  exact this
def fp1 (b : Int → Int) : List Int → Int
  | [] => -1
  | t :: l => if b t = 0 then fp1 b l else t
theorem onB_iff {f r : Int} : onB f r = true ↔ (0 ≤ f ∧ f < 8) ∧ 0 ≤ r ∧ r < 8 := by
  unfold onB
  simp only [Bool.and_eq_true, decide_eq_true_eq]
theorem fpF_ray (b : Int → Int) (df dr : Int) : ∀ (k : Nat) (f r : Int), fpF b df dr k f r = fp1 b (ray df dr k f r)
  | 0, _, _ => rfl
  | k + 1, f, r => by
    unfold fpF ray
    by_cases h : onB (f + df) (r + dr) = true
    · rw [if_pos (onB_iff.mp h), h]
      show _ = (if b (8 * (r + dr) + (f + df)) = 0 then _ else _)
      rw [fpF_ray b df dr k]
    · rw [if_neg (fun z => h (onB_iff.mpr z))]
      rw [Bool.not_eq_true] at h
      rw [h]
      rfl
theorem way_t : ∀ w : Nat, w < 8 → tbl 26 (w : Int) = WF.getD w 0 ∧ tbl 27 (w : Int) = WR.getD w 0 ∧ tbl 28 (w : Int) = LF.getD w 0 ∧ tbl 29 (w : Int) = LR.getD w 0 := by decide
theorem way_d : ∀ w : Nat, w < 8 → ((¬ WF.getD w 0 = 0 ∧ ¬ WR.getD w 0 = 0) ↔ diag w = true) ∧ ¬ (8 * WR.getD w 0 + WF.getD w 0 = 0) := by decide
theorem hit_ray {b : Int → Int} {sq : Int} {w i : Nat} {r : List Int} {t : Int} (hw : w < 8) (h : RayAt sq w r i t) (ho : ∀ x ∈ r.take i, b x = 0) (hb : 0 ≤ b t ∧ b t ≤ 14) : hitS b t sq ↔ ¬ stC b sq w t = 0 := by
  obtain ⟨t1, t2, -, -⟩ := way_t w hw
  obtain ⟨d1, d2⟩ := way_d w hw
  have hop : opnP b t sq := by
    intro x hx
    rw [h.pt, List.mem_reverse] at hx
    exact ho x hx
  have hn : (t - sq = 8 * tbl 27 w + tbl 26 w) ↔ i = 0 := by
    rw [h.df, t1, t2]
    constructor
    · intro e
      have e2 : (i : Int) * (8 * WR.getD w 0 + WF.getD w 0) = 0 := by
        rw [Int.add_mul, Int.one_mul] at e
        omega
      rcases Int.mul_eq_zero.mp e2 with z | z
      · omega
      · exact absurd z d2
    · intro e
      rw [e]
      simp
  have hg : (¬ tbl 26 (w : Int) = 0 ∧ ¬ tbl 27 (w : Int) = 0) ↔ diag w = true := by rw [t1, t2]; exact d1
  unfold stC stI hitS
  rw [h.sl, h.ln, h.kn, h.kg]
  have e1 : (if t - sq = 8 * tbl 27 (w : Int) + tbl 26 (w : Int) then (1 : Int) else 0) = if i = 0 then 1 else 0 := by
    by_cases hi : i = 0
    · rw [if_pos hi, if_pos (hn.mpr hi)]
    · rw [if_neg hi, if_neg (fun z => hi (hn.mp z))]
  have e2 : (if ¬ tbl 26 (w : Int) = 0 ∧ ¬ tbl 27 (w : Int) = 0 then (1 : Int) else 0) = if diag w = true then 1 else 0 := by
    by_cases hi : diag w = true
    · rw [if_pos hi, if_pos (hg.mpr hi)]
    · rw [if_neg hi, if_neg (fun z => hi (hg.mp z))]
  rw [e1, e2, t2]
  by_cases k1 : b t % 8 = 1
  · rw [if_pos k1]
    have hp : gpw (if b t < 8 then 1 else -1) t sq = true ↔ i = 0 ∧ diag w = true ∧ WR.getD w 0 = (if b t < 8 then -1 else 1) := by
      by_cases h8 : b t < 8
      · rw [if_pos h8, if_pos h8, h.p1]; simp
      · rw [if_neg h8, if_neg h8, h.p2]; simp
    constructor
    · intro hh
      rcases hh with hh | hh | hh | hh | hh | hh
      · have := hp.mp hh.2
        have hc : (¬ (if i = 0 then (1 : Int) else 0) = 0 ∧ ¬ (if diag w = true then (1 : Int) else 0) = 0 ∧ 8 * WR.getD w 0 = -(if b t / 8 = 0 then 8 else -8)) := by
          refine ⟨by rw [if_pos this.1]; decide, by rw [if_pos this.2.1]; decide, ?_⟩
          rw [this.2.2]
          by_cases h8 : b t < 8
          · rw [if_pos h8, if_pos (by omega)]; decide
          · rw [if_neg h8, if_neg (by omega)]; decide
        rw [if_pos hc]
        decide
      all_goals exact absurd hh.1 (by omega)
    · intro hh
      left
      refine ⟨k1, hp.mpr ?_⟩
      by_cases hc : (¬ (if i = 0 then (1 : Int) else 0) = 0 ∧ ¬ (if diag w = true then (1 : Int) else 0) = 0 ∧ 8 * WR.getD w 0 = -(if b t / 8 = 0 then 8 else -8))
      · obtain ⟨c1, c2, c3⟩ := hc
        refine ⟨?_, ?_, ?_⟩
        · by_cases hi : i = 0
          · exact hi
          · rw [if_neg hi] at c1; exact absurd rfl c1
        · by_cases hi : diag w = true
          · exact hi
          · rw [if_neg hi] at c2; exact absurd rfl c2
        · by_cases h8 : b t < 8
          · rw [if_pos (show b t / 8 = 0 by omega)] at c3; rw [if_pos h8]; omega
          · rw [if_neg (show ¬ b t / 8 = 0 by omega)] at c3; rw [if_neg h8]; omega
      · rw [if_neg hc] at hh; exact absurd rfl hh
  · rw [if_neg k1]
    by_cases k3 : b t % 8 = 3
    · rw [if_pos k3]
      by_cases hd : diag w = true
      · rw [if_pos hd]
        exact ⟨fun _ => by decide, fun _ => Or.inr (Or.inr (Or.inl ⟨k3, hd, hop⟩))⟩
      · rw [if_neg hd]
        refine ⟨fun hh => ?_, fun hh => absurd rfl hh⟩
        rcases hh with hh | hh | hh | hh | hh | hh
        · exact absurd hh.1 k1
        · exact absurd hh.2 (by decide)
        · exact absurd hh.2.1 hd
        all_goals exact absurd hh.1 (by omega)
    · rw [if_neg k3]
      by_cases k4 : b t % 8 = 4
      · rw [if_pos k4]
        by_cases hd : diag w = true
        · rw [if_pos hd, if_neg (show ¬ ((1 : Int) = 0) by decide)]
          refine ⟨fun hh => ?_, fun hh => absurd rfl hh⟩
          rcases hh with hh | hh | hh | hh | hh | hh
          · exact absurd hh.1 k1
          · exact absurd hh.2 (by decide)
          · exact absurd hh.1 k3
          · rw [hd] at hh; exact absurd hh.2.1 (by decide)
          all_goals exact absurd hh.1 (by omega)
        · rw [if_neg hd, if_pos rfl]
          rw [Bool.not_eq_true] at hd
          exact ⟨fun _ => by decide, fun _ => Or.inr (Or.inr (Or.inr (Or.inl ⟨k4, by rw [hd]; rfl, hop⟩)))⟩
      · rw [if_neg k4]
        by_cases k5 : b t % 8 = 5
        · rw [if_pos k5]
          exact ⟨fun _ => by decide, fun _ => Or.inr (Or.inr (Or.inr (Or.inr (Or.inl ⟨k5, by cases diag w <;> simp, hop⟩))))⟩
        · rw [if_neg k5]
          by_cases k6 : b t % 8 = 6
          · rw [if_pos k6]
            by_cases hi : i = 0
            · rw [if_pos hi, hi]
              exact ⟨fun _ => by decide, fun _ => Or.inr (Or.inr (Or.inr (Or.inr (Or.inr ⟨k6, rfl⟩))))⟩
            · rw [if_neg hi]
              refine ⟨fun hh => ?_, fun hh => absurd rfl hh⟩
              rcases hh with hh | hh | hh | hh | hh | hh
              · exact absurd hh.1 k1
              · exact absurd hh.2 (by decide)
              · exact absurd hh.1 k3
              · exact absurd hh.1 k4
              · exact absurd hh.1 k5
              · have := hh.2; rw [beq_iff_eq] at this; exact absurd this hi
          · rw [if_neg k6]
            refine ⟨fun hh => ?_, fun hh => absurd rfl hh⟩
            rcases hh with hh | hh | hh | hh | hh | hh
            · exact absurd hh.1 k1
            · exact absurd hh.2 (by decide)
            · exact absurd hh.1 k3
            · exact absurd hh.1 k4
            · exact absurd hh.1 k5
            · exact absurd hh.1 k6
theorem hit_blocked {b : Int → Int} {sq : Int} {w i : Nat} {r : List Int} {t x : Int} (h : RayAt sq w r i t) (hx : x ∈ r.take i) (hbx : ¬ b x = 0) : ¬ hitS b t sq := by
  have hno : ¬ opnP b t sq := fun ho => hbx (ho x (by rw [h.pt, List.mem_reverse]; exact hx))
  have hi : ¬ i = 0 := by
    intro z
    rw [z] at hx
    simp at hx
  have hi2 : (i == 0) = false := by simp [hi]
  rintro (hh | hh | hh | hh | hh | hh)
  · have := hh.2
    by_cases h8 : b t < 8
    · rw [if_pos h8, h.p1, hi2] at this; exact absurd this (by simp)
    · rw [if_neg h8, h.p2, hi2] at this; exact absurd this (by simp)
  · rw [h.kn] at hh; exact absurd hh.2 (by decide)
  · exact hno hh.2.2
  · exact hno hh.2.2
  · exact hno hh.2.2
  · rw [h.kg, hi2] at hh; exact absurd hh.2 (by decide)
theorem ray_sum {b : Int → Int} {sq side : Int} {w : Nat} (hb : bdOk b) (hs : 0 ≤ sq ∧ sq < 64) (hw : w < 8) : ∀ (l pre : List Int), raySq sq w = pre ++ l → (∀ x ∈ pre, b x = 0) → lsum (manF b sq side) l = dec (¬ fp1 b l = -1 ∧ ofS (b (fp1 b l)) side ∧ ¬ stC b sq w (fp1 b l) = 0)
  | [], pre, _, _ => by
    rw [dec_n (fun z => z.1 rfl)]
    rfl
  | t :: l, pre, he, hp => by
    have hat : RayAt sq w (raySq sq w) pre.length t := ray_sq hs hw (by rw [he]; simp)
    have htk : (raySq sq w).take pre.length = pre := by rw [he]; simp
    show manF b sq side t + lsum (manF b sq side) l = _
    by_cases h0 : b t = 0
    · have e1 : fp1 b (t :: l) = fp1 b l := by show (if b t = 0 then _ else _) = _; rw [if_pos h0]
      rw [e1, ← ray_sum hb hs hw l (pre ++ [t]) (by rw [he]; simp) (fun x hx => by
        rcases List.mem_append.mp hx with h | h
        · exact hp x h
        · rw [List.mem_singleton.mp h]; exact h0)]
      have : manF b sq side t = 0 := dec_n (fun z => z.1.1 h0)
      omega
    · have e1 : fp1 b (t :: l) = t := by show (if b t = 0 then _ else _) = _; rw [if_neg h0]
      rw [e1]
      have hz : lsum (manF b sq side) l = 0 := by
        apply lsum_zero
        intro x hx
        obtain ⟨j, hj⟩ := List.getElem?_of_mem hx
        have hat2 : RayAt sq w (raySq sq w) (pre.length + (j + 1)) x := ray_sq hs hw (by
          rw [he, List.getElem?_append_right (by omega), show pre.length + (j + 1) - pre.length = j + 1 by omega, List.getElem?_cons_succ]
          exact hj)
        refine dec_n (fun z => hit_blocked hat2 (x := t) ?_ h0 z.2)
        rw [he, List.take_append]
        simp
      have hh := hit_ray hw hat (by rw [htk]; exact hp) (hb t hat.inb.1 hat.inb.2)
      rw [hz, Int.add_zero]
      show dec _ = _
      by_cases hc : ofS (b t) side ∧ hitS b t sq
      · rw [dec_p hc, dec_p ⟨by have := hat.inb; omega, hc.1, hh.mp hc.2⟩]
      · rw [dec_n hc, dec_n (fun z => hc ⟨z.2.1, hh.mpr z.2.2⟩)]
theorem ray_ryC {b : Int → Int} {sq side : Int} {w : Nat} (hb : bdOk b) (hs : 0 ≤ sq ∧ sq < 64) (hw : w < 8) : lsum (manF b sq side) (raySq sq w) = dec (ryC b sq side w) := by
  have := ray_sum (side := side) hb hs hw (raySq sq w) [] rfl (by simp)
  rw [this]
  unfold ryC
  obtain ⟨t1, t2, -, -⟩ := way_t w hw
  rw [t1, t2, fpF_ray]
  rfl
theorem leap_sum {b : Int → Int} {sq side : Int} (hb : bdOk b) (hsd : 0 ≤ side ∧ side ≤ 1) (hs : 0 ≤ sq ∧ sq < 64) {w : Nat} (hw : w < 8) : lsum (manF b sq side) ([w].filterMap (fun w => match onB (sq % 8 + LF.getD w 0) (sq / 8 + LR.getD w 0) with
  | true => some (8 * (sq / 8 + LR.getD w 0) + (sq % 8 + LF.getD w 0))
  | false => none)) = dec (knC b sq side w) := by
  obtain ⟨-, -, t3, t4⟩ := way_t w hw
  unfold knC
  rw [t3, t4]
  by_cases h : onB (sq % 8 + LF.getD w 0) (sq / 8 + LR.getD w 0) = true
  · have hmem : (8 * (sq / 8 + LR.getD w 0) + (sq % 8 + LF.getD w 0)) ∈ leapSq sq := by
      unfold leapSq
      rw [List.mem_filterMap]
      exact ⟨w, List.mem_range.mpr hw, by rw [h]⟩
    rw [List.filterMap_cons, h]
    generalize ht : (8 * (sq / 8 + LR.getD w 0) + (sq % 8 + LF.getD w 0)) = t at *
    have hlo : leapOk sq t = true := by
      obtain ⟨n, rfl⟩ := Int.eq_ofNat_of_zero_le hs.1
      exact List.all_eq_true.mp (geo_leap n (by omega)) t hmem
    unfold leapOk at hlo
    simp only [Bool.and_eq_true, beq_iff_eq, decide_eq_true_eq] at hlo
    obtain ⟨⟨⟨⟨a1, a2⟩, a3, a4⟩, a5, a6⟩, ⟨a7, a8⟩, -⟩ := hlo
    have hbt := hb t a7 a8
    have hh : (ofS (b t) side ∧ hitS b t sq) ↔ b t = 2 + 8 * side := by
      constructor
      · rintro ⟨ho, hh⟩
        have hk : b t % 8 = 2 := by
          rcases hh with hh | hh | hh | hh | hh | hh
          · have := hh.2
            by_cases h8 : b t < 8
            · rw [if_pos h8, a5] at this; exact absurd this (by decide)
            · rw [if_neg h8, a6] at this; exact absurd this (by decide)
          · exact hh.1
          · rw [a1] at hh; exact absurd hh.2.1 (by decide)
          · rw [a2] at hh; exact absurd hh.2.1 (by decide)
          · rw [a1, a2] at hh; exact absurd hh.2.1 (by decide)
          · rw [a4] at hh; exact absurd hh.2 (by decide)
        have := ho.2
        omega
      · intro e
        refine ⟨⟨by omega, by omega⟩, Or.inr (Or.inl ⟨by omega, a3⟩)⟩
    show manF b sq side t + 0 = _
    rw [Int.add_zero]
    show dec _ = _
    by_cases hc : b t = 2 + 8 * side
    · rw [dec_p (hh.mpr hc), dec_p ⟨onB_iff.mp h, hc⟩]
    · rw [dec_n (fun z => hc (hh.mp z)), dec_n (fun z => hc z.2)]
  · rw [dec_n (fun z => h (onB_iff.mpr z.1))]
    rw [Bool.not_eq_true] at h
    rw [List.filterMap_cons, h]
    rfl
theorem cnt_sum {b : Int → Int} {sq side : Int} (hb : bdOk b) (hsd : 0 ≤ side ∧ side ≤ 1) (hs : 0 ≤ sq ∧ sq < 64) : ∀ n : Nat, n ≤ 8 → cntA b sq side n = lsum (manF b sq side) ((List.range n).flatMap (raySq sq)) + lsum (manF b sq side) ((List.range n).filterMap (fun w => match onB (sq % 8 + LF.getD w 0) (sq / 8 + LR.getD w 0) with
  | true => some (8 * (sq / 8 + LR.getD w 0) + (sq % 8 + LF.getD w 0))
  | false => none))
  | 0, _ => rfl
  | n + 1, hn => by
    rw [List.range_succ, List.flatMap_append, List.filterMap_append, lsum_app, lsum_app, leap_sum hb hsd hs (by omega)]
    have e1 : [n].flatMap (raySq sq) = raySq sq n := by simp
    rw [e1, ray_ryC hb hs (by omega)]
    have := cnt_sum hb hsd hs n (by omega)
    show cntA b sq side n + (dec (ryC b sq side n) + dec (knC b sq side n)) = _
    rw [this]
    omega
/-- what the class counts is what the reference counts -/
theorem cnt_many {b : Int → Int} {sq side : Int} (hb : bdOk b) (hsd : 0 ≤ side ∧ side ≤ 1) (hs : 0 ≤ sq ∧ sq < 64) : cntA b sq side 8 = sumF (manF b sq side) 64 := by
  rw [cnt_sum hb hsd hs 8 (by omega), sum_split hs]
  have rest0 : ∀ t, restOk sq t = true → manF b sq side t = 0 := by
    intro t ht
    unfold restOk at ht
    simp only [Bool.and_eq_true, beq_iff_eq] at ht
    obtain ⟨⟨⟨⟨a1, a2⟩, a3, a4⟩, a5, a6⟩, -⟩ := ht
    refine dec_n (fun z => ?_)
    rcases z.2 with hh | hh | hh | hh | hh | hh
    · have := hh.2
      by_cases h8 : b t < 8
      · rw [if_pos h8, a5] at this; exact absurd this (by decide)
      · rw [if_neg h8, a6] at this; exact absurd this (by decide)
    · rw [a3] at hh; exact absurd hh.2 (by decide)
    · rw [a1] at hh; exact absurd hh.2.1 (by decide)
    · rw [a2] at hh; exact absurd hh.2.1 (by decide)
    · rw [a1, a2] at hh; exact absurd hh.2.1 (by decide)
    · rw [a4] at hh; exact absurd hh.2 (by decide)
  have e1 : manF b sq side sq = 0 := by
    apply rest0
    obtain ⟨n, rfl⟩ := Int.eq_ofNat_of_zero_le hs.1
    exact geo_self n (by omega)
  have e2 : lsum (manF b sq side) (restOf sq) = 0 := by
    apply lsum_zero
    intro t ht
    apply rest0
    obtain ⟨n, rfl⟩ := Int.eq_ofNat_of_zero_le hs.1
    exact List.all_eq_true.mp (geo_rest n (by omega)) t ht
  rw [e1, e2]
  show lsum _ (raysOf sq) + lsum _ (leapSq sq) = _
  omega
