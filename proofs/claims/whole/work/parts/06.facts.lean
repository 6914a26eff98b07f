/-! What the names' tables say, as it is used. -/
def tyL (cA : Nat → ClassId) : List (ClassId × FieldType) := [(cA 2, .int), (cA 3, .byte), (cA 4, .short), (cA 5, .long)]
theorem obj_out {o : Nat} (h : 41 ≤ o) : objT.getD o (0, 0, []) = (0, 0, []) := by
  rw [List.getD_eq_getElem?_getD, List.getElem?_eq_none (show objT.length ≤ o from h)]
  rfl
theorem f_okd (o : Nat) (h : 24 ≤ o) : okd o = 6 ∨ okd o = 7 ∨ okd o = 0 := by
  by_cases h1 : o < 41
  · exact (show ∀ o, o < 41 → 24 ≤ o → (okd o = 6 ∨ okd o = 7 ∨ okd o = 0) by decide) o h1 h
  · right; right
    unfold okd
    rw [obj_out (by omega)]
theorem f_oln (o : Nat) : oln o < 2147483648 := by
  by_cases h1 : o < 41
  · exact (show ∀ o, o < 41 → oln o < 2147483648 by decide) o h1
  · unfold oln
    rw [obj_out (by omega)]
    decide
theorem okd_le (o : Nat) : okd o ≤ 7 := by
  by_cases h1 : o < 41
  · exact (show ∀ o, o < 41 → okd o ≤ 7 by decide) o h1
  · unfold okd
    rw [obj_out (by omega)]
    decide
theorem okd_lt {o : Nat} (h : okd o ≠ 0) : o < 41 := by
  by_cases h1 : o < 41
  · exact h1
  · unfold okd at h
    rw [obj_out (by omega)] at h
    exact absurd rfl h
theorem f_sta (o : Nat) (h : okd o = 6) : ∃ q ∈ staL, q.2.2.2 = o :=
  (show ∀ o, o < 41 → okd o = 6 → ∃ q ∈ staL, q.2.2.2 = o by decide) o (okd_lt (by omega)) h
theorem f_scr (o : Nat) (h : okd o = 7) : o = 40 :=
  (show ∀ o, o < 41 → okd o = 7 → o = 40 by decide) o (okd_lt (by omega)) h
theorem f_knd (cA : Nat → ClassId) (o : Nat) (hk : 2 ≤ okd o) (h5 : okd o ≠ 5) (h6 : okd o ≠ 6) (h7 : okd o ≠ 7) : ∃ t, (tyL cA)[okd o - 2]? = some (cA (okd o), t) := by
  have h8 := okd_le o
  generalize okd o = k at *
  rcases (show k = 2 ∨ k = 3 ∨ k = 4 by omega) with rfl | rfl | rfl
  · exact ⟨_, rfl⟩
  · exact ⟨_, rfl⟩
  · exact ⟨_, rfl⟩
theorem f_ocl (o : Nat) (h : okd o = 1) : ocl o < nC :=
  (show ∀ o, o < 41 → okd o = 1 → ocl o < nC by decide) o (okd_lt (by omega)) h
theorem f_clo (lim : Nat) (hL : lim = 14 ∨ lim = 24) (o b r : Nat) (ho : o < lim) (hk : okd o = 1) (hb : b < nfl (ocl o)) (hf : fld o b = r + 1) : r < lim := by
  have h13 : nfl (ocl o) ≤ 13 := (show ∀ c, c < nC → nfl c ≤ 13 by decide) _ (f_ocl o hk)
  rcases hL with rfl | rfl
  · have := (show ∀ o, o < 14 → ∀ b, b < 13 → fld o b ≤ 14 by decide) o ho b (by omega)
    omega
  · have := (show ∀ o, o < 24 → ∀ b, b < 13 → fld o b ≤ 24 by decide) o ho b (by omega)
    omega
theorem all_at {α : Type} {p : α → Bool} {l : List α} (h : l.all p = true) {x : α} (hx : x ∈ l) : p x = true := List.all_eq_true.mp h x hx
theorem range_at {p : Nat → Bool} {n : Nat} (h : (List.range n).all p = true) {k : Nat} (hk : k < n) : p k = true := List.all_eq_true.mp h k (List.mem_range.mpr hk)
theorem f_uws (c : Nat) (hc : c < nC) : ∀ w ∈ u_ws (cn c) (FT c) (nfl c), w ∈ WS := by
  intro w hw
  obtain ⟨k, hk, rfl⟩ := List.mem_map.mp hw
  exact atW_mem (range_at (range_at uwP_ok hc) (List.mem_range.mp hk))
theorem f_fty (c : Nat) (hc : c < nC) : ∀ k, k < nfl c → parseFieldDescriptor (FT c k).2.2.1 = some (fty c k) := fun k hk => of_decide_eq_true (range_at (range_at fty_ok hc) hk)
theorem f_fnm (c : Nat) (hc : c < nC) : ∀ a, a < nfl c → ∀ b, b < nfl c → a ≠ b → (FT c a).2.1 ≠ (FT c b).2.1 := by
  intro a ha b hb hne
  have h := range_at (range_at (range_at fnm_ok hc) ha) hb
  simp only [Bool.or_eq_true, beq_iff_eq, decide_eq_true_eq] at h
  exact h.resolve_left hne
theorem f_stw (m : Nat) (hm : m < nM) (h : mst m = true) : Cond.static (my m) ∈ WS := by
  have h1 := range_at stP_ok hm
  rw [if_pos h] at h1
  exact atW_mem h1
theorem f_inw (m : Nat) (hm : m < nM) (h : mst m = false) : Cond.instanceMethod (my m) ∈ WS := by
  have h1 := range_at stP_ok hm
  rw [if_neg (by rw [h]; decide)] at h1
  exact atW_mem h1
theorem f_ini (m : Nat) (hm : m < nM) : Cond.initialized (my m).cls ∈ WS := atW_mem (range_at inP_ok hm)
theorem f_sel (m : Nat) (hm : m < nM) (h : mst m = false) : Cond.selects (my m).cls (my m) (my m) ∈ WS := by
  have h1 := range_at seP_ok hm
  rw [h, Bool.false_or] at h1
  by_cases h0 : 0 ≤ seP.getD m 0
  · rw [if_pos h0] at h1
    exact atW_mem h1
  · rw [if_neg h0] at h1
    exact atP_mem h1
theorem desc_at (m : Nat) (hm : m < nM) : (((my m).cls ≠ "java/lang/invoke/MethodHandle" ∧ (my m).cls ≠ "java/lang/invoke/VarHandle") ∧ (parseMethodDescriptor (my m).desc).map (fun d => d.parameters.length) = some (npar m)) ∧ (plainName (my m).cls = true ∧ (my m).cls = cn (mcl m)) ∧ mna m ≤ mml m ∧ mml m ≤ 23 := by
  have h := range_at desc_ok hm
  simp only [Bool.and_eq_true, decide_eq_true_eq] at h
  exact h
theorem f_desc (m : Nat) (hm : m < nM) : (my m).cls ≠ "java/lang/invoke/MethodHandle" ∧ (my m).cls ≠ "java/lang/invoke/VarHandle" ∧ (parseMethodDescriptor (my m).desc).map (fun d => d.parameters.length) = some (npar m) := ⟨(desc_at m hm).1.1.1, (desc_at m hm).1.1.2, (desc_at m hm).1.2⟩
theorem f_plain (m : Nat) (hm : m < nM) : plainName (my m).cls = true := (desc_at m hm).2.1.1
theorem f_mcl (m : Nat) (hm : m < nM) : (my m).cls = cn (mcl m) := (desc_at m hm).2.1.2
theorem f_len (m : Nat) (hm : m < nM) : mna m ≤ mml m ∧ mml m ≤ 23 := (desc_at m hm).2.2
theorem f_npar (m : Nat) (_ : m < nM) : (mst m = true → mna m = npar m) ∧ (mst m = false → mna m = npar m + 1) := ⟨fun h => if_pos h, fun h => if_neg (by rw [h]; decide)⟩
theorem f_ret (m : Nat) (_ : m < nM) : mret m = match mrk m with | 0 => none | k + 1 => some (if k = 0 then .int else .boolean) := rfl
theorem f_ci {own nL pc k a b len : Nat} {z : Int} (h : okA own nL pc (.ldc k, len, a, b, z) = true) : Cond.constant (cn own) k (Int32.ofInt z) ∈ WS := by
  obtain ⟨q, hq, h1⟩ := List.any_eq_true.mp h
  simp only [Bool.and_eq_true, beq_iff_eq] at h1
  obtain ⟨rfl, rfl, rfl⟩ := h1
  exact atW_mem (all_at conI_ok hq)
theorem f_cl {own nL pc k a b len : Nat} {z : Int} (h : okA own nL pc (.ldc2_w k, len, a, b, z) = true) : Cond.constantLong (cn own) k (Int64.ofInt z) ∈ WS := by
  obtain ⟨q, hq, h1⟩ := List.any_eq_true.mp h
  simp only [Bool.and_eq_true, beq_iff_eq] at h1
  obtain ⟨rfl, rfl, rfl⟩ := h1
  exact atW_mem (all_at conL_ok hq)
theorem linkF_at {own k a b : Nat} (h : linkF.any (fun q => ((q.1 == own) && (q.2.1 == k)) && ((q.2.2.1 == a) && (q.2.2.2.1 == b))) = true) : a < nC ∧ b < nfl a ∧ fldW own k a b ∈ WS := by
  obtain ⟨q, hq, h1⟩ := List.any_eq_true.mp h
  simp only [Bool.and_eq_true, beq_iff_eq] at h1
  obtain ⟨⟨rfl, rfl⟩, rfl, rfl⟩ := h1
  have h2 := all_at linkF_ok hq
  simp only [Bool.and_eq_true, decide_eq_true_eq] at h2
  exact ⟨h2.2.1, h2.2.2, atW_mem h2.1⟩
theorem f_fl {own nL pc k a b len : Nat} {z : Int} (h : okA own nL pc (.getfield k, len, a, b, z) = true) : a < nC ∧ b < nfl a ∧ fldW own k a b ∈ WS := linkF_at h
theorem f_fp {own nL pc k a b len : Nat} {z : Int} (h : okA own nL pc (.putfield k, len, a, b, z) = true) : a < nC ∧ b < nfl a ∧ fldW own k a b ∈ WS ∧ (FT a b).2.2.2 = false ∧ fty a b = (if isZ a b = true then .boolean else .int) := by
  have h : (linkF.any (fun q => ((q.1 == own) && (q.2.1 == k)) && ((q.2.2.1 == a) && (q.2.2.2.1 == b))) && (decide ((FT a b).2.2.2 = false) && decide (fty a b = (if isZ a b = true then .boolean else .int)))) = true := h
  rw [Bool.and_eq_true, Bool.and_eq_true] at h
  obtain ⟨h1, h2, h3⟩ := linkF_at h.1
  exact ⟨h1, h2, h3, of_decide_eq_true h.2.1, of_decide_eq_true h.2.2⟩
theorem hasN_at {l : List (Nat × Nat × Nat × Nat)} {a b c : Nat} (h : hasN l a b c = true) : ∃ p, (a, b, c, p) ∈ l := by
  obtain ⟨q, hq, h1⟩ := List.any_eq_true.mp h
  simp only [Bool.and_eq_true, beq_iff_eq] at h1
  obtain ⟨rfl, rfl, rfl⟩ := h1
  exact ⟨q.2.2.2, hq⟩
theorem f_gs {own nL pc k a b len : Nat} {z : Int} (h : okA own nL pc (.getstatic k, len, a, b, z) = true) : ((sti a).1, (sti a).2.1, (sti a).2.2, a) ∈ staL ∧ 24 ≤ a ∧ (staW (own, k, a) ∈ WS ∨ (own, k, a) ∈ nestS) := by
  have h : ((decide (24 ≤ a) && decide (a < 32)) && (hasN statS own k a || hasN nestSp own k a)) = true := h
  simp only [Bool.and_eq_true, decide_eq_true_eq, Bool.or_eq_true] at h
  obtain ⟨⟨h1, h2⟩, h3⟩ := h
  refine ⟨?_, h1, ?_⟩
  · rcases (show a = 24 ∨ a = 25 ∨ a = 26 ∨ a = 27 ∨ a = 28 ∨ a = 29 ∨ a = 30 ∨ a = 31 by omega) with rfl | rfl | rfl | rfl | rfl | rfl | rfl | rfl <;> simp [staL]
  · rcases h3 with h3 | h3
    · obtain ⟨p, hp⟩ := hasN_at h3
      exact Or.inl (atW_mem (all_at statS_ok hp))
    · obtain ⟨p, hp⟩ := hasN_at h3
      right
      rw [nestS_eq]
      exact List.mem_map.mpr ⟨_, hp, rfl⟩
theorem f_ab {own nL pc k b len : Nat} {z : Int} (h : okA own nL pc (.invokestatic k, len, 0, b, z) = true) : Cond.methodLink (cn own) k Lib.Math.abs.name ∈ WS ∧ Cond.static Lib.Math.abs.name ∈ WS ∧ Cond.initialized "java/lang/Math" ∈ WS ∧ Cond.code Lib.Math.abs.name Lib.Math.abs.code 1 (some .int) ∈ WS := by
  obtain ⟨q, hq, h1⟩ := List.any_eq_true.mp h
  simp only [Bool.and_eq_true, beq_iff_eq] at h1
  obtain ⟨rfl, rfl⟩ := h1
  exact ⟨atW_mem (all_at absL_ok hq), abs_st, math_in, abs_cd⟩
theorem f_mx {own nL pc k b len : Nat} {z : Int} (h : okA own nL pc (.invokestatic k, len, 1, b, z) = true) : Cond.methodLink (cn own) k Lib.Math.max.name ∈ WS ∧ Cond.static Lib.Math.max.name ∈ WS ∧ Cond.initialized "java/lang/Math" ∈ WS ∧ Cond.code Lib.Math.max.name Lib.Math.max.code 2 (some .int) ∈ WS := by
  obtain ⟨q, hq, h1⟩ := List.any_eq_true.mp h
  simp only [Bool.and_eq_true, beq_iff_eq] at h1
  obtain ⟨rfl, rfl⟩ := h1
  exact ⟨atW_mem (all_at maxL_ok hq), max_st, math_in, max_cd⟩
theorem link_at {own k m : Nat} (h : (hasN linkM own k m || hasN nestMp own k m) = true) : mthW own k m ∈ WS ∨ (own, k, m) ∈ nestM := by
  rw [Bool.or_eq_true] at h
  rcases h with h | h
  · obtain ⟨p, hp⟩ := hasN_at h
    exact Or.inl (atW_mem (all_at linkM_ok hp))
  · obtain ⟨p, hp⟩ := hasN_at h
    right
    rw [nestM_eq]
    exact List.mem_map.mpr ⟨_, hp, rfl⟩
theorem f_is {own nL pc k m b len : Nat} {z : Int} (h : okA own nL pc (.invokestatic k, len, m + 2, b, z) = true) : m < nM ∧ b = mna m ∧ mst m = true ∧ (mthW own k m ∈ WS ∨ (own, k, m) ∈ nestM) := by
  have h : ((decide (m < nM) && (b == mna m)) && ((mst m == true) && (hasN linkM own k m || hasN nestMp own k m))) = true := h
  rw [Bool.and_eq_true, Bool.and_eq_true, Bool.and_eq_true] at h
  exact ⟨of_decide_eq_true h.1.1, by simpa using h.1.2, by simpa using h.2.1, link_at h.2.2⟩
theorem f_iv {own nL pc k m b len : Nat} {z : Int} (h : okA own nL pc (.invokevirtual k, len, m + 2, b, z) = true) : m < nM ∧ b = mna m ∧ mst m = false ∧ (mthW own k m ∈ WS ∨ (own, k, m) ∈ nestM) := by
  have h : ((decide (m < nM) && (b == mna m)) && ((mst m == false) && (hasN linkM own k m || hasN nestMp own k m))) = true := h
  rw [Bool.and_eq_true, Bool.and_eq_true, Bool.and_eq_true] at h
  exact ⟨of_decide_eq_true h.1.1, by simpa using h.1.2, by simpa using h.2.1, link_at h.2.2⟩
theorem f_ts {own nL pc a b len : Nat} {d lo hi : Int} {offs : Array Int} {z : Int} (h : okA own nL pc (.tableswitch d lo hi offs, len, a, b, z) = true) : (offs.size : Int) = hi - lo + 1 ∧ 0 ≤ (pc : Int) + d ∧ ∀ o ∈ offs.toList, 0 ≤ (pc : Int) + o := by
  have h : (decide ((offs.size : Int) = hi - lo + 1) && (decide (0 ≤ (pc : Int) + d) && offs.toList.all (fun o => decide (0 ≤ (pc : Int) + o)))) = true := h
  rw [Bool.and_eq_true, Bool.and_eq_true] at h
  exact ⟨of_decide_eq_true h.1, of_decide_eq_true h.2.1, fun o ho => of_decide_eq_true (all_at h.2.2 ho)⟩
