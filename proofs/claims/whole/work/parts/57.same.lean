/-! Both sides' answers are the same. -/
noncomputable def lst (P : Int → Prop) : Nat → List Int
  | 0 => []
  | n + 1 => lst P n ++ (if dec (P n) = 1 then [(n : Int)] else [])
theorem lst_y {P : Int → Prop} {n : Nat} (h : P n) : lst P (n + 1) = lst P n ++ [(n : Int)] := by
  show lst P n ++ (if dec (P n) = 1 then [(n : Int)] else []) = _
  rw [dec_p h, if_pos rfl]
theorem lst_n {P : Int → Prop} {n : Nat} (h : ¬ P n) : lst P (n + 1) = lst P n := by
  show lst P n ++ (if dec (P n) = 1 then [(n : Int)] else []) = _
  rw [dec_n h, if_neg (by decide), List.append_nil]
theorem lst_mem {P : Int → Prop} {x : Int} : ∀ {n : Nat}, x ∈ lst P n ↔ (0 ≤ x ∧ x < n) ∧ P x
  | 0 => by
    constructor
    · intro h; simp [lst] at h
    · intro h; omega
  | n + 1 => by
    have ih := lst_mem (P := P) (x := x) (n := n)
    by_cases hp : P n
    · rw [lst_y hp, List.mem_append, List.mem_singleton, ih]
      constructor
      · rintro (h | h)
        · exact ⟨by omega, h.2⟩
        · exact ⟨by omega, by rw [h]; exact hp⟩
      · rintro ⟨h1, h2⟩
        by_cases hx : x = n
        · exact Or.inr hx
        · exact Or.inl ⟨by omega, h2⟩
    · rw [lst_n hp, ih]
      constructor
      · exact fun h => ⟨by omega, h.2⟩
      · rintro ⟨h1, h2⟩
        refine ⟨⟨h1.1, ?_⟩, h2⟩
        by_cases hx : x = n
        · rw [hx] at h2; exact absurd h2 hp
        · omega
theorem lst_so {P : Int → Prop} : ∀ n : Nat, (lst P n).Pairwise (· < ·)
  | 0 => List.Pairwise.nil
  | n + 1 => by
    by_cases hp : P n
    · rw [lst_y hp, List.pairwise_append]
      refine ⟨lst_so n, List.pairwise_singleton _ _, fun x hx y hy => ?_⟩
      have := (lst_mem.mp hx).1
      rw [List.mem_singleton] at hy
      omega
    · rw [lst_n hp]; exact lst_so n
theorem fold_lst {α : Type} {g : α → Int → α} {a0 : α} {P : Int → Prop} : ∀ n : Nat, fold g a0 P n = (lst P n).foldl g a0
  | 0 => rfl
  | n + 1 => by
    by_cases hp : P n
    · rw [lst_y hp, fold_y hp, fold_lst n, List.foldl_append]
      rfl
    · rw [lst_n hp, fold_n hp, fold_lst n]
theorem cntL_lst {P : Int → Prop} : ∀ n : Nat, cntL P n = ((lst P n).length : Int)
  | 0 => rfl
  | n + 1 => by
    by_cases hp : P n
    · rw [lst_y hp, cntL_y hp, cntL_lst n, List.length_append]
      simp
    · rw [lst_n hp, cntL_n hp, cntL_lst n]
theorem lst_pre {P : Int → Prop} {m : Nat} : ∀ k : Nat, ∃ l, lst P (m + k) = lst P m ++ l
  | 0 => ⟨[], by simp⟩
  | k + 1 => by
    obtain ⟨l, hl⟩ := lst_pre (P := P) (m := m) k
    by_cases hp : P ((m + k : Nat) : Int)
    · exact ⟨l ++ [((m + k : Nat) : Int)], by rw [← Nat.add_assoc, lst_y hp, hl, List.append_assoc]⟩
    · exact ⟨l, by rw [← Nat.add_assoc, lst_n hp, hl]⟩
theorem lw_lst {b : Int → Int} {sd r ps : Int} {ll : List Int} (h : lwIs b sd r ps ll) : ll = lst (lawC b sd r ps) 32768 :=
  lw_un h ⟨lst_so _, fun x => by rw [lst_mem]; constructor <;> exact fun z => ⟨by omega, z.2⟩⟩
theorem fold_ll {b : Int → Int} {sd r ps : Int} {ll : List Int} {α : Type} {g : α → Int → α} {a0 : α} (h : lwIs b sd r ps ll) : fold g a0 (lawC b sd r ps) 32768 = ll.foldl g a0 := by
  rw [fold_lst, ← lw_lst h]
theorem cap_len {most : Int} : ∀ {l : List Int} {a : Int}, a ≤ most → l.foldl (cap most) a = if a + l.length ≤ most then a + l.length else most
  | [], a, h => by simp [h]
  | x :: l, a, h => by
    rw [List.foldl_cons, cap_e]
    by_cases h1 : a < most
    · rw [if_pos h1, cap_len (by omega), List.length_cons]
      have : a + 1 + (l.length : Int) = a + ((l.length + 1 : Nat) : Int) := by omega
      rw [this]
    · rw [if_neg h1, cap_len h, List.length_cons]
      split <;> split <;> omega
theorem moves_same {b : Int → Int} {sd r ps : Int} {ll : List Int} (h : lwIs b sd r ps ll) (hl : ll.length ≤ 415) : fold (cap 10000) 0 (lawC b sd r ps) 32768 = ll.length := by
  rw [fold_ll h, cap_len (by omega), if_pos (by omega)]
  omega
theorem none_same {b : Int → Int} {sd r ps : Int} {ll : List Int} (h : lwIs b sd r ps ll) : fold (cap 1) 0 (lawC b sd r ps) 32768 = 0 ↔ ll.length = 0 := by
  rw [fold_ll h, cap_len (by omega)]
  split <;> omega
theorem leg_same {b : Int → Int} {sd r ps i z z' : Int} {ll : List Int} (h : lwIs b sd r ps ll) (hi : 0 ≤ i) (h1 : legM (lawC b sd r ps) i z) (h2 : legA ll i z') : z = z' := by
  have e := lw_lst h
  have hc := cntL_lst (P := lawC b sd r ps) 32768
  rw [← e] at hc
  rcases h1 with ⟨x, hx, hp, hcx, hz⟩ | ⟨hc1, hz⟩
  · have hl := cntL_lst (P := lawC b sd r ps) x
    obtain ⟨l, hl2⟩ := lst_pre (P := lawC b sd r ps) (m := x + 1) (32768 - (x + 1))
    rw [show x + 1 + (32768 - (x + 1)) = 32768 by omega, ← e, lst_y hp, List.append_assoc] at hl2
    have hg : ll[i.toNat]? = some (x : Int) := by
      rw [hl2, List.getElem?_append_right (by omega), show i.toNat - (lst (lawC b sd r ps) x).length = 0 by omega]
      rfl
    rcases h2 with ⟨y, hy, hz'⟩ | ⟨h3, -⟩
    · rw [hg] at hy
      simp only [Option.some.injEq] at hy
      subst hy
      rw [hz, hz']
      omega
    · have hle : i.toNat < ll.length := by
        have := List.getElem?_eq_some_iff.mp hg
        exact this.1
      omega
  · rcases h2 with ⟨y, hy, -⟩ | ⟨-, hz'⟩
    · have := (List.getElem?_eq_some_iff.mp hy).1
      omega
    · rw [hz, hz']
theorem mx_fold {v : Int → Int} : ∀ {l : List Int} {a : Int}, a ≤ l.foldl (mxA v) a ∧ (∀ x ∈ l, v x ≤ l.foldl (mxA v) a) ∧ (l.foldl (mxA v) a = a ∨ ∃ x ∈ l, l.foldl (mxA v) a = v x)
  | [], a => ⟨Int.le_refl _, by simp, Or.inl rfl⟩
  | y :: l, a => by
    rw [List.foldl_cons]
    obtain ⟨h1, h2, h3⟩ := mx_fold (v := v) (l := l) (a := mxA v a y)
    have hm : a ≤ mxA v a y ∧ v y ≤ mxA v a y ∧ (mxA v a y = a ∨ mxA v a y = v y) := by
      rw [mxA_e]; split <;> omega
    refine ⟨by omega, ?_, ?_⟩
    · intro x hx
      rw [List.mem_cons] at hx
      rcases hx with hx | hx
      · rw [hx]; omega
      · exact h2 x hx
    · rcases h3 with h3 | ⟨x, hx, h3⟩
      · rcases hm.2.2 with h4 | h4
        · exact Or.inl (h3.trans h4)
        · exact Or.inr ⟨y, by simp, h3.trans h4⟩
      · exact Or.inr ⟨x, by simp [hx], h3⟩
theorem getD_mem {L : List Int} {n : Nat} (h : n < L.length) : L.getD n 0 ∈ L := by
  rw [List.getD_eq_getElem?_getD, List.getElem?_eq_getElem h]
  exact List.getElem_mem h
theorem bst_max {b k : Int → Int} {sd ps : Int} {L : List Int} : ∀ n : Nat, n ≤ L.length → (∀ m : Nat, m < n → lgC b k sd ps (L.getD m 0) → gnC b sd ps (L.getD m 0) ≤ bstN b k sd ps L n) ∧ (bstN b k sd ps L n = -1 ∨ ∃ x ∈ L, lgC b k sd ps x ∧ bstN b k sd ps L n = gnC b sd ps x)
  | 0, _ => ⟨fun m hm => by omega, Or.inl rfl⟩
  | n + 1, hn => by
    obtain ⟨h1, h2⟩ := bst_max (b := b) (k := k) (sd := sd) (ps := ps) (L := L) n (by omega)
    have e : bstN b k sd ps L (n + 1) = if dec (bstN b k sd ps L n < gnC b sd ps (L.getD n 0) ∧ lgC b k sd ps (L.getD n 0)) = 1 then gnC b sd ps (L.getD n 0) else bstN b k sd ps L n := rfl
    by_cases hc : bstN b k sd ps L n < gnC b sd ps (L.getD n 0) ∧ lgC b k sd ps (L.getD n 0)
    · rw [dec_p hc, if_pos rfl] at e
      rw [e]
      refine ⟨fun m hm hl => ?_, Or.inr ⟨_, getD_mem (by omega), hc.2, rfl⟩⟩
      by_cases hmn : m = n
      · rw [hmn]; exact Int.le_refl _
      · have := h1 m (by omega) hl
        omega
    · rw [dec_n hc, if_neg (by decide)] at e
      rw [e]
      refine ⟨fun m hm hl => ?_, h2⟩
      by_cases hmn : m = n
      · rw [hmn] at hl ⊢
        apply Classical.byContradiction
        intro z
        exact hc ⟨by omega, hl⟩
      · exact h1 m (by omega) hl
theorem bal_opp {b : Int → Int} {sd : Int} (hc : clOk b) (hsd : 0 ≤ sd ∧ sd ≤ 1) : sumF (balF b (1 - sd)) 64 = -sumF (balF b sd) 64 := by
  rw [← sumF_neg]
  refine sumF_cg (fun s h1 h2 => ?_)
  have hv := hc s h1 (by omega)
  unfold balF
  by_cases h0 : b s = 0
  · rw [dec_n (show ¬ ofS (b s) (1 - sd) from fun z => z.1 h0), dec_n (show ¬ ofS (b s) sd from fun z => z.1 h0), if_neg (by decide), h0]
    rfl
  · by_cases ho : b s / 8 = sd
    · rw [dec_n (fun z => by have := z.2; omega), dec_p ⟨h0, ho⟩, if_neg (by decide), if_pos rfl]
    · rw [dec_p ⟨h0, by omega⟩, dec_n (fun z => ho z.2), if_pos rfl, if_neg (by decide)]
      omega
theorem bal_next {b : Int → Int} {sd r ps f t q : Int} (hg : gp b sd r ps) (hf : 0 ≤ f ∧ f < 64) (ht : 0 ≤ t ∧ t < 64) (h : gosS b sd r ps f t q) : sumF (balF (plB b sd ps f t q) sd) 64 = sumF (balF b sd) 64 + gnA b sd ps f t q := by
  have hsd := hg.1.sd
  have hv := of_v hg.1.cl hf h.1.1
  have hm := mvV_v hg.1 hf h
  have htk := (tak_v hg hf ht h).2
  have e : sumF (balF (plB b sd ps f t q) sd) 64 = _ := sum_play (F := fun x => if dec (ofS x sd) = 1 then tbl 31 (x % 8) else -tbl 31 (x % 8)) hg.1 hf ht h
  rw [e]
  show sumF (balF b sd) 64 + (if dec (ofS (mvV b sd f q) sd) = 1 then tbl 31 (mvV b sd f q % 8) else -tbl 31 (mvV b sd f q % 8)) + (if dec (ofS 0 sd) = 1 then tbl 31 (0 % 8) else -tbl 31 (0 % 8)) - (if dec (ofS (b f) sd) = 1 then tbl 31 (b f % 8) else -tbl 31 (b f % 8)) - (if dec (ofS (b (takA b sd ps f t)) sd) = 1 then tbl 31 (b (takA b sd ps f t) % 8) else -tbl 31 (b (takA b sd ps f t) % 8)) = _
  rw [dec_p hm.1, dec_p h.1.1, dec_n (show ¬ ofS 0 sd from fun z => z.1 rfl), dec_n (show ¬ ofS (b (takA b sd ps f t)) sd from fun z => by
    rcases htk with k | k
    · exact z.1 k
    · have := z.2; have := k.1.2; omega), if_pos rfl, if_pos rfl, if_neg (by decide), if_neg (by decide)]
  have z0 : tbl 31 (0 % 8) = 0 := rfl
  have z1 : tbl 31 1 = 1 := rfl
  unfold gnA
  rcases hm.2.2.1 with ⟨k1, k2⟩ | ⟨k1, k2, k3⟩
  · rw [k2, if_pos k1, z0]; omega
  · rw [k2, k3, if_neg (by omega), show (q + 8 * sd) % 8 = q by omega, show (1 + 8 * sd) % 8 = 1 by omega, z0, z1]; omega
theorem wv_gn {b : Int → Int} {sd r ps x : Int} (hg : gp b sd r ps) (hr : 0 ≤ x ∧ x < 32768) (h : lawC b sd r ps x) : wvA b sd ps x = sumF (balF b sd) 64 + gnC b sd ps x := by
  have hf : 0 ≤ x / 512 ∧ x / 512 < 64 := by omega
  have ht : 0 ≤ x / 8 % 64 ∧ x / 8 % 64 < 64 := by omega
  have hsd := hg.1.sd
  unfold wvA plX gnC
  rw [bal_opp (cl_next hg.1 hf ht h.1) hsd, bal_next hg hf ht h.1]
  omega
theorem gn_nn {b : Int → Int} {sd r ps x : Int} (h : lawC b sd r ps x) : 0 ≤ gnC b sd ps x := by
  unfold gnC gnA
  have h1 := tb31 (b (takA b sd ps (x / 512) (x / 8 % 64)) % 8)
  rcases gos_qq h.1 with hq | hq
  · rw [if_pos hq]; omega
  · rw [if_neg (by omega)]
    have : ∀ q : Nat, 2 ≤ q → q ≤ 5 → 1 ≤ tbl 31 q := by
      intro q h1 h2
      rcases (show q = 2 ∨ q = 3 ∨ q = 4 ∨ q = 5 by omega) with rfl | rfl | rfl | rfl <;> decide
    have := this (x % 8).toNat (by omega) (by omega)
    rw [show (((x % 8).toNat : Nat) : Int) = x % 8 by omega] at this
    omega
theorem non_same {b k : Int → Int} {sd r ps : Int} (hg : gp b sd r ps) (hk : kg b k) : nonA b k sd = nonM b sd := by
  have hsd := hg.1.sd
  have hkk := hk sd hsd.1 hsd.2
  have := chk_cnt hg.1.bd hsd (hg.1.me hsd) hkk.1 hkk.2
  unfold nonA nonM
  by_cases hc : chkS b sd
  · rw [if_pos (this.mp hc), dec_p hc, if_pos rfl]
  · rw [if_neg (fun z => hc (this.mpr z)), dec_n hc, if_neg (by decide)]
theorem lw_ex (b : Int → Int) (sd r ps : Int) : lwIs b sd r ps (lst (lawC b sd r ps) 32768) := ⟨lst_so _, fun x => by rw [lst_mem]; constructor <;> exact fun z => ⟨by omega, z.2⟩⟩
theorem one_same {b k : Int → Int} {sd r ps : Int} (hg : gp b sd r ps) (hk : kg b k) : oneA b k sd r ps = oneM b sd r ps := by
  have hlw := lw_ex b sd r ps
  have hmem : ∀ x, x ∈ lst (lawC b sd r ps) 32768 ↔ x ∈ allL b sd r ps ∧ lgC b k sd ps x := by
    intro x
    rw [hlw.2 x, all_mem hg.1]
    constructor
    · rintro ⟨h1, h2, h3⟩
      exact ⟨⟨h1, h2⟩, (lg_law hg hk ⟨h1, h2⟩).mpr h3⟩
    · rintro ⟨h1, h2⟩
      exact ⟨h1.1, h1.2, (lg_law hg hk h1).mp h2⟩
  unfold oneA oneM
  rw [fold_ll hlw, ← non_same hg hk]
  generalize lst (lawC b sd r ps) 32768 = ll at *
  obtain ⟨b1, b2⟩ := bst_max (b := b) (k := k) (sd := sd) (ps := ps) (L := allL b sd r ps) (allL b sd r ps).length (Nat.le_refl _)
  generalize bstN b k sd ps (allL b sd r ps) (allL b sd r ps).length = B at *
  obtain ⟨m1, m2, m3⟩ := mx_fold (v := wvA b sd ps) (l := ll) (a := -100000)
  generalize ll.foldl (mxA (wvA b sd ps)) (-100000) = M at *
  have hv : ∀ x ∈ ll, wvA b sd ps x = sumF (balF b sd) 64 + gnC b sd ps x ∧ 0 ≤ gnC b sd ps x := fun x hx => ⟨wv_gn hg ((hlw.2 x).mp hx).1 ((hlw.2 x).mp hx).2, gn_nn ((hlw.2 x).mp hx).2⟩
  have hb : ∀ x ∈ ll, gnC b sd ps x ≤ B := by
    intro x hx
    obtain ⟨h1, h2⟩ := (hmem x).mp hx
    obtain ⟨n, hn, e⟩ := List.getElem_of_mem h1
    have e2 : (allL b sd r ps).getD n 0 = x := by rw [List.getD_eq_getElem?_getD, List.getElem?_eq_getElem hn, e]; rfl
    have := b1 n hn (by rw [e2]; exact h2)
    rw [e2] at this
    exact this
  have hbal := bal_in (b := b) (sd := sd)
  rcases m3 with m3 | ⟨x, hx, m3⟩
  · have hB : B = -1 := by
      rcases b2 with b2 | ⟨x, hx, hl, b2⟩
      · exact b2
      · have hx2 := (hmem x).mpr ⟨hx, hl⟩
        have := m2 x hx2
        have := (hv x hx2)
        omega
    rw [if_pos (by omega), if_pos m3]
  · have h1 := hv x hx
    have h2 := hb x hx
    rw [if_neg (by omega), if_neg (by omega)]
    rcases b2 with b2 | ⟨y, hy, hl, b2⟩
    · omega
    · have hy2 := (hmem y).mpr ⟨hy, hl⟩
      have h3 := m2 y hy2
      have h4 := hv y hy2
      omega
theorem tw_max {b k : Int → Int} {sd r ps : Int} {ll : List Int} : ∀ n : Nat, n ≤ ll.length → -1000 ≤ twN b k sd r ps ll n ∧ (∀ m : Nat, m < n → -nxV b k sd r ps (ll.getD m 0) ≤ twN b k sd r ps ll n) ∧ (twN b k sd r ps ll n = -1000 ∨ ∃ x ∈ ll, twN b k sd r ps ll n = -nxV b k sd r ps x)
  | 0, _ => ⟨Int.le_refl _, fun m hm => by omega, Or.inl rfl⟩
  | n + 1, hn => by
    obtain ⟨h0, h1, h2⟩ := tw_max (b := b) (k := k) (sd := sd) (r := r) (ps := ps) (ll := ll) n (by omega)
    have e : twN b k sd r ps ll (n + 1) = if twN b k sd r ps ll n < -nxV b k sd r ps (ll.getD n 0) then -nxV b k sd r ps (ll.getD n 0) else twN b k sd r ps ll n := rfl
    by_cases hc : twN b k sd r ps ll n < -nxV b k sd r ps (ll.getD n 0)
    · rw [if_pos hc] at e
      rw [e]
      refine ⟨by omega, fun m hm => ?_, Or.inr ⟨_, getD_mem (by omega), rfl⟩⟩
      by_cases hmn : m = n
      · rw [hmn]; exact Int.le_refl _
      · have := h1 m (by omega)
        omega
    · rw [if_neg hc] at e
      rw [e]
      refine ⟨h0, fun m hm => ?_, h2⟩
      by_cases hmn : m = n
      · rw [hmn]; omega
      · exact h1 m (by omega)
theorem nx_tv {b k : Int → Int} {sd r ps x : Int} (hg : gp b sd r ps) (hk : kg b k) (hr : 0 ≤ x ∧ x < 32768) (h : lawC b sd r ps x) : -nxV b k sd r ps x = tvA b sd r ps x := by
  have hf : 0 ≤ x / 512 ∧ x / 512 < 64 := by omega
  have ht : 0 ≤ x / 8 % 64 ∧ x / 8 % 64 < 64 := by omega
  unfold nxV tvA nxB plX
  rw [mk_pl hg.1 hf ht h.1, lr_kp hg.1.rg hf ht, mk_pass hg.1 hf ht h.1, one_same (gp_next hg hf ht h) (kg_next hg hk hf ht h.1)]
theorem two_same {b k : Int → Int} {sd r ps : Int} {ll : List Int} (hg : gp b sd r ps) (hk : kg b k) (hl : lwIs b sd r ps ll) : twoA b k sd r ps ll = twoM b sd r ps := by
  unfold twoA twoM
  rw [fold_ll hl, ← non_same hg hk]
  obtain ⟨t0, t1, t2⟩ := tw_max (b := b) (k := k) (sd := sd) (r := r) (ps := ps) (ll := ll) ll.length (Nat.le_refl _)
  generalize twN b k sd r ps ll ll.length = T at *
  obtain ⟨m1, m2, m3⟩ := mx_fold (v := tvA b sd r ps) (l := ll) (a := -100000)
  generalize ll.foldl (mxA (tvA b sd r ps)) (-100000) = M at *
  have hv : ∀ x ∈ ll, -nxV b k sd r ps x = tvA b sd r ps x := fun x hx => nx_tv hg hk ((hl.2 x).mp hx).1 ((hl.2 x).mp hx).2
  have hin : ∀ x, -1000 ≤ tvA b sd r ps x := fun x => by
    have := oneM_in (B := plX b sd ps x) (sd := 1 - sd) (r := kpA (kpA r (x / 512)) (x / 8 % 64)) (ps := plP b sd (x / 512) (x / 8 % 64))
    unfold tvA
    omega
  have hb : ∀ x ∈ ll, tvA b sd r ps x ≤ T := by
    intro x hx
    obtain ⟨n, hn, e⟩ := List.getElem_of_mem hx
    have e2 : ll.getD n 0 = x := by rw [List.getD_eq_getElem?_getD, List.getElem?_eq_getElem hn, e]; rfl
    have := t1 n hn
    rw [e2, hv x hx] at this
    exact this
  by_cases h0 : ll.length = 0
  · rw [if_pos h0]
    rcases m3 with m3 | ⟨x, hx, m3⟩
    · rw [if_pos m3]
    · rw [List.eq_nil_of_length_eq_zero h0] at hx; simp at hx
  · rw [if_neg h0]
    have hx : ∃ x, x ∈ ll := by
      cases ll with
      | nil => exact absurd rfl h0
      | cons x l => exact ⟨x, by simp⟩
    obtain ⟨x, hx⟩ := hx
    have h1 := m2 x hx
    have h2 := hin x
    rw [if_neg (by omega)]
    rcases m3 with m3 | ⟨y, hy, m3⟩
    · omega
    · have h3 := hb y hy
      rcases t2 with t2 | ⟨w, hw, t2⟩
      · have := hin y; omega
      · have h4 := m2 w hw
        have h5 := hv w hw
        omega
theorem sch_same {b k : Int → Int} {sd r ps dp : Int} {ll : List Int} (hg : gp b sd r ps) (hk : kg b k) (hl : lwIs b sd r ps ll) : schA b k sd r ps ll dp = schM b sd r ps dp := by
  unfold schA schM
  rw [one_same hg hk, two_same hg hk hl]
theorem tp_same {b : Int → Int} {sd r ps : Int} {ll : List Int} (hg : gp b sd r ps) (hl : lwIs b sd r ps ll) : tpA b ps ll = tkA b sd r ps := by
  have hps := hg.1.ps
  have : (¬ ps = -1 ∧ pcC b ps ll) ↔ takS b sd r ps := by
    constructor
    · rintro ⟨h1, c, hc, hb, ht⟩
      obtain ⟨hr, hlaw⟩ := (hl.2 c).mp hc
      refine ⟨by omega, c / 512, by omega, ?_, ?_⟩
      · rw [show c / 512 % 64 = c / 512 by omega] at hb
        exact hb
      · unfold lawC at hlaw
        rw [ht] at hlaw
        have hq : c % 8 = 0 := by
          rcases hlaw.1.2 with ⟨-, hp, -⟩ | ⟨-, hp, -⟩
          · unfold prS at hp
            rw [if_neg ?_] at hp
            · exact hp
            · rcases hg.1.pa with z | z
              · omega
              · have z1 := z.1
                have ha := ahd_v hg.1.sd
                rcases ha with ha | ha
                · rw [if_pos ha.1] at z1 ⊢; omega
                · rw [if_neg (by omega)] at z1 ⊢; omega
          · exact hp
        rw [hq] at hlaw
        exact hlaw
    · rintro ⟨h1, f, hf, hb, hlaw⟩
      refine ⟨by omega, 512 * f + 8 * ps, (hl.2 _).mpr ⟨by omega, ?_⟩, ?_, by omega⟩
      · unfold lawC
        rw [show (512 * f + 8 * ps) / 512 = f by omega, show (512 * f + 8 * ps) / 8 % 64 = ps by omega, show (512 * f + 8 * ps) % 8 = 0 by omega]
        exact hlaw
      · rw [show (512 * f + 8 * ps) / 512 % 64 = f by omega]
        exact hb
  unfold tpA tkA
  rw [dec_cg this]
/-! dead positions -/
noncomputable def bgF (b : Int → Int) : Int → Int := fun s => dec (bigC b s)
theorem sumF_z {f : Int → Int} {n : Nat} (h : ∀ s : Int, 0 ≤ f s) (h0 : sumF f n = 0) {s : Int} (h1 : 0 ≤ s) (h2 : s < n) : f s = 0 := by
  have := sumF_pt h h1 h2
  have := h s
  omega
theorem sumF_0 {f : Int → Int} : ∀ {n : Nat}, (∀ s : Int, 0 ≤ s → s < n → f s = 0) → sumF f n = 0
  | 0, _ => rfl
  | n + 1, h => by rw [sumF_s, sumF_0 (fun s h1 h2 => h s h1 (by omega)), h n (by omega) (by omega)]; rfl
theorem dead_same {b : Int → Int} (hc : clOk b) : deadP b ↔ deadM b := by
  have kd : ∀ s : Int, 0 ≤ s → s < 64 → pcF b s = bgF b s + (knF b s + (biF b 0 s + biF b 1 s)) ∧ lgF b s = knF b s + (biF b 0 s + biF b 1 s) ∧ eqF b 3 s = biF b 0 s ∧ eqF b 11 s = biF b 1 s := by
    intro s h1 h2
    have hv := hc s h1 h2
    unfold pcF lgF eqF bgF knF biF bigC ofS
    rcases (show b s = 0 ∨ b s = 1 ∨ b s = 2 ∨ b s = 3 ∨ b s = 4 ∨ b s = 5 ∨ b s = 6 ∨ b s = 9 ∨ b s = 10 ∨ b s = 11 ∨ b s = 12 ∨ b s = 13 ∨ b s = 14 by omega) with e | e | e | e | e | e | e | e | e | e | e | e | e <;> rw [e] <;> simp only [← dec_if] <;> decide
  have e1 : sumF (pcF b) 64 = sumF (bgF b) 64 + (sumF (knF b) 64 + (sumF (biF b 0) 64 + sumF (biF b 1) 64)) := by
    rw [sumF_cg (n := 64) (fun s h1 h2 => (kd s h1 (by omega)).1), sumF_add, sumF_add, sumF_add]
  have e2 : sumF (lgF b) 64 = sumF (knF b) 64 + (sumF (biF b 0) 64 + sumF (biF b 1) 64) := by
    rw [sumF_cg (n := 64) (fun s h1 h2 => (kd s h1 (by omega)).2.1), sumF_add, sumF_add]
  have e3 : sumF (eqF b 3) 64 = sumF (biF b 0) 64 := sumF_cg (n := 64) (fun s h1 h2 => (kd s h1 (by omega)).2.2.1)
  have e4 : sumF (eqF b 11) 64 = sumF (biF b 1) 64 := sumF_cg (n := 64) (fun s h1 h2 => (kd s h1 (by omega)).2.2.2)
  have nb : 0 ≤ sumF (bgF b) 64 := sumF_nn (fun _ => dec_nn _)
  have nk : 0 ≤ sumF (knF b) 64 := sumF_nn (fun _ => dec_nn _)
  have n0 : 0 ≤ sumF (biF b 0) 64 := sumF_nn (fun _ => dec_nn _)
  have n1 : 0 ≤ sumF (biF b 1) 64 := sumF_nn (fun _ => dec_nn _)
  have hbig : (∀ s, 0 ≤ s → s < 64 → ¬ bigC b s) ↔ sumF (bgF b) 64 = 0 := by
    constructor
    · exact fun h => sumF_0 (n := 64) (fun s h1 h2 => dec_n (h s h1 (by omega)))
    · intro h s h1 h2
      exact not_of_dec (sumF_z (f := bgF b) (n := 64) (fun _ => dec_nn _) h h1 (by omega))
  have hco : sumF (bgF b) 64 = 0 → sumF (knF b) 64 = 0 → sumF (coF b) 64 = sumF (odF b) 64 := by
    intro h1 h2
    refine sumF_cg (n := 64) (fun s h3 h4 => ?_)
    have g1 : ¬ bigC b s := not_of_dec (sumF_z (f := bgF b) (n := 64) (fun _ => dec_nn _) h1 h3 h4)
    have g2 : ¬ b s % 8 = 2 := not_of_dec (sumF_z (f := knF b) (n := 64) (fun _ => dec_nn _) h2 h3 h4)
    have hv := hc s h3 (by omega)
    unfold bigC at g1
    unfold coF odF
    by_cases hb3 : b s % 8 = 3
    · rw [dec_p ⟨by omega, by omega⟩, if_pos rfl, if_pos hb3]
    · rw [dec_n (by omega), if_neg (by decide), if_neg hb3]
  unfold deadP deadM
  rw [hbig, e1, e2, e3, e4]
  generalize sumF (bgF b) 64 = B at *
  generalize sumF (knF b) 64 = K at *
  generalize sumF (biF b 0) 64 = X at *
  generalize sumF (biF b 1) 64 = Y at *
  constructor
  · rintro ⟨h1, h2 | ⟨h2, h3, h4, h5⟩⟩
    · by_cases hz : K + X + Y = 0
      · left; omega
      · right; left; omega
    · right; right
      refine ⟨by omega, h3, h4, ?_⟩
      rw [hco h1 h2]; exact h5
  · rintro (h | h | ⟨h1, h2, h3, h4⟩)
    · exact ⟨by omega, Or.inl (by omega)⟩
    · exact ⟨by omega, Or.inl (by omega)⟩
    · refine ⟨by omega, Or.inr ⟨by omega, h2, h3, ?_⟩⟩
      rw [← hco (by omega) (by omega)]; exact h4
theorem ver_same {b k : Int → Int} {sd r ps ck T : Int} {ll : List Int} (hg : gp b sd r ps) (hk : kg b k) (hl : lwIs b sd r ps ll) : verA b k sd ck ll T = verM b sd r ps ck T := by
  have hsd := hg.1.sd
  have hkk := hk sd hsd.1 hsd.2
  unfold verA verM
  rw [dec_cg (dead_same hg.1.cl), dec_cg (chk_cnt hg.1.bd hsd (hg.1.me hsd) hkk.1 hkk.2)]
  by_cases h0 : ll.length = 0
  · rw [if_pos h0, if_pos ((none_same hl).mpr h0)]
  · rw [if_neg h0, if_neg (fun z => h0 ((none_same hl).mp z))]
theorem flt_same {b : Int → Int} {sd r ps : Int} (hb : bdOk b) (hsd : 0 ≤ sd ∧ sd ≤ 1) : fltA b sd r ps = fltM b sd r ps := by
  unfold fltA fltM
  by_cases hm : menP b 0 ∧ menP b 1
  · have hmm : menP b (1 - sd) := by
      rcases (show sd = 0 ∨ sd = 1 by omega) with rfl | rfl
      · exact hm.2
      · exact hm.1
    have hkk := men_king hb hmm
    have := chk_cnt hb (by omega) hmm hkk.1 hkk.2
    rw [show 1 - (1 - sd) = sd by omega] at this
    have e : (if 0 < cntA b (fk b (6 + 8 * (1 - sd)) 64 0) sd 8 then -4 else if dec (∀ n : Nat, n < 4 → bakP b r n) = 0 then -5 else if dec (ps = -1 ∨ pasP b sd ps) = 0 then -6 else 0 : Int) = (if dec (chkS b (1 - sd)) = 1 then -4 else if dec (∀ n : Nat, n < 4 → bakP b r n) = 0 then -5 else if dec (ps = -1 ∨ pasP b sd ps) = 0 then -6 else 0) := by
      by_cases hc : chkS b (1 - sd)
      · rw [if_pos (this.mp hc), if_pos (dec_p hc)]
      · rw [if_neg (fun z => hc (this.mpr z)), if_neg (show ¬ dec (chkS b (1 - sd)) = 1 by rw [dec_n hc]; decide)]
    rw [e]
  · rw [if_pos (dec_n hm), if_pos (dec_n hm)]
theorem flt_gp {b : Int → Int} {sd r ps : Int} (hc : clOk b) (ho : out0 b) (hsd : 0 ≤ sd ∧ sd ≤ 1) (hr : 0 ≤ r ∧ r ≤ 15) (hps : -1 ≤ ps ∧ ps < 64) (h : fltM b sd r ps = 0) : gp b sd r ps := by
  unfold fltM at h
  by_cases hm : menP b 0 ∧ menP b 1
  · rw [dec_p hm, if_neg (by decide)] at h
    by_cases hp : pwnP b
    · rw [dec_p hp, if_pos rfl] at h; omega
    · rw [dec_n hp, if_neg (by decide)] at h
      by_cases hk : chkS b (1 - sd)
      · rw [dec_p hk, if_pos rfl] at h; omega
      · rw [dec_n hk, if_neg (by decide)] at h
        by_cases hb : ∀ n : Nat, n < 4 → bakP b r n
        · rw [dec_p hb, if_neg (by decide)] at h
          by_cases hq : ps = -1 ∨ pasP b sd ps
          · exact ⟨⟨hc, ho, hsd, hr, hps, hm, hp, hb, hq⟩, hk⟩
          · rw [dec_n hq, if_pos rfl] at h; omega
        · rw [dec_n hb, if_pos rfl] at h; omega
  · rw [dec_n hm, if_pos rfl] at h; omega
