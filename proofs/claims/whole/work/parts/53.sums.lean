/-! Sums over squares; what a position of a game is; its kings. -/
theorem sumF_s {f : Int → Int} {n : Nat} : sumF f (n + 1) = sumF f n + f n := rfl
theorem sumF_cg {f g : Int → Int} : ∀ {n : Nat}, (∀ s : Int, 0 ≤ s → s < n → f s = g s) → sumF f n = sumF g n
  | 0, _ => rfl
  | n + 1, h => by
    rw [sumF_s, sumF_s, sumF_cg (fun s h1 h2 => h s h1 (by omega)), h n (by omega) (by omega)]
theorem updB_eq {b : Int → Int} {i v : Int} : updB b i v i = v := if_pos rfl
theorem updB_ne {b : Int → Int} {i v s : Int} (h : ¬ s = i) : updB b i v s = b s := if_neg h
theorem sumF_upd {F b : Int → Int} {i v : Int} : ∀ {n : Nat}, 0 ≤ i → i < n → sumF (fun s => F (updB b i v s)) n = sumF (fun s => F (b s)) n + F v - F (b i)
  | 0, h1, h2 => by omega
  | n + 1, h1, h2 => by
    rw [sumF_s, sumF_s]
    by_cases hi : i = n
    · have : sumF (fun s => F (updB b i v s)) n = sumF (fun s => F (b s)) n := sumF_cg (fun s h3 h4 => by
        show F (updB b i v s) = F (b s)
        rw [updB_ne (by omega)])
      rw [this]
      show _ + F (updB b i v n) = _ + F (b n) + _ - _
      rw [← hi, updB_eq]
      omega
    · rw [sumF_upd h1 (by omega)]
      show _ + F (updB b i v n) = _
      rw [updB_ne (by omega)]
      omega
theorem sumF_add {f g : Int → Int} : ∀ n : Nat, sumF (fun s => f s + g s) n = sumF f n + sumF g n
  | 0 => rfl
  | n + 1 => by rw [sumF_s, sumF_s, sumF_s, sumF_add n]; omega
theorem sumF_neg {f : Int → Int} : ∀ n : Nat, sumF (fun s => -f s) n = -sumF f n
  | 0 => rfl
  | n + 1 => by rw [sumF_s, sumF_s, sumF_neg n]; omega
theorem sumF_nn {f : Int → Int} : ∀ {n : Nat}, (∀ s : Int, 0 ≤ f s) → 0 ≤ sumF f n
  | 0, _ => by simp [sumF]
  | n + 1, h => by
    have h1 := sumF_nn (n := n) h
    have h2 := h n
    rw [sumF_s]; omega
theorem sumF_pt {f : Int → Int} {s : Int} : ∀ {n : Nat}, (∀ s : Int, 0 ≤ f s) → 0 ≤ s → s < n → f s ≤ sumF f n
  | 0, _, h1, h2 => by omega
  | n + 1, h, h1, h2 => by
    rw [sumF_s]
    by_cases hi : s = n
    · have := sumF_nn (n := n) h
      rw [hi]; omega
    · have := sumF_pt (s := s) (n := n) h h1 (by omega)
      have := h n
      omega
theorem sumF_pt2 {f : Int → Int} {s u : Int} : ∀ {n : Nat}, (∀ s : Int, 0 ≤ f s) → 0 ≤ s → s < u → u < n → f s + f u ≤ sumF f n
  | 0, _, h1, h2, h3 => by omega
  | n + 1, h, h1, h2, h3 => by
    rw [sumF_s]
    by_cases hi : u = n
    · have := sumF_pt (s := s) (n := n) h h1 (by omega)
      rw [hi]; omega
    · have := sumF_pt2 (s := s) (u := u) (n := n) h h1 h2 (by omega)
      have := h n
      omega
theorem sumF_le {f g : Int → Int} : ∀ {n : Nat}, (∀ s : Int, 0 ≤ s → s < n → f s ≤ g s) → sumF f n ≤ sumF g n
  | 0, _ => Int.le_refl _
  | n + 1, h => by
    have h1 := sumF_le (f := f) (g := g) (n := n) (fun s h1 h2 => h s h1 (by omega))
    have h2 := h n (by omega) (by omega)
    rw [sumF_s, sumF_s]; omega
theorem dec_nn (p : Prop) : 0 ≤ dec p := by have := dec_01 p; omega
theorem dec_cg {p q : Prop} (h : p ↔ q) : dec p = dec q := by
  by_cases hp : p
  · rw [dec_p hp, dec_p (h.mp hp)]
  · rw [dec_n hp, dec_n (fun z => hp (h.mpr z))]
/-- a cell holds nothing or a man -/
def clOk (b : Int → Int) : Prop := ∀ s, 0 ≤ s → s < 64 → b s = 0 ∨ (1 ≤ b s ∧ b s ≤ 6) ∨ (9 ≤ b s ∧ b s ≤ 14)
theorem clOk.bd {b : Int → Int} (h : clOk b) : bdOk b := fun s h1 h2 => by have := h s h1 h2; omega
/-- a position of a game, but for the check -/
def gp0 (b : Int → Int) (sd r ps : Int) : Prop := clOk b ∧ out0 b ∧ (0 ≤ sd ∧ sd ≤ 1) ∧ (0 ≤ r ∧ r ≤ 15) ∧ (-1 ≤ ps ∧ ps < 64) ∧ (menP b 0 ∧ menP b 1) ∧ ¬ pwnP b ∧ (∀ n : Nat, n < 4 → bakP b r n) ∧ (ps = -1 ∨ pasP b sd ps)
theorem gp0.cl {b : Int → Int} {sd r ps : Int} (h : gp0 b sd r ps) : clOk b := h.1
theorem gp0.bd {b : Int → Int} {sd r ps : Int} (h : gp0 b sd r ps) : bdOk b := h.1.bd
theorem gp0.ou {b : Int → Int} {sd r ps : Int} (h : gp0 b sd r ps) : out0 b := h.2.1
theorem gp0.sd {b : Int → Int} {sd r ps : Int} (h : gp0 b sd r ps) : 0 ≤ sd ∧ sd ≤ 1 := h.2.2.1
theorem gp0.rg {b : Int → Int} {sd r ps : Int} (h : gp0 b sd r ps) : 0 ≤ r ∧ r ≤ 15 := h.2.2.2.1
theorem gp0.ps {b : Int → Int} {sd r ps : Int} (h : gp0 b sd r ps) : -1 ≤ ps ∧ ps < 64 := h.2.2.2.2.1
theorem gp0.m0 {b : Int → Int} {sd r ps : Int} (h : gp0 b sd r ps) : menP b 0 := h.2.2.2.2.2.1.1
theorem gp0.m1 {b : Int → Int} {sd r ps : Int} (h : gp0 b sd r ps) : menP b 1 := h.2.2.2.2.2.1.2
theorem gp0.pw {b : Int → Int} {sd r ps : Int} (h : gp0 b sd r ps) : ¬ pwnP b := h.2.2.2.2.2.2.1
theorem gp0.bk {b : Int → Int} {sd r ps : Int} (h : gp0 b sd r ps) : ∀ n : Nat, n < 4 → bakP b r n := h.2.2.2.2.2.2.2.1
theorem gp0.pa {b : Int → Int} {sd r ps : Int} (h : gp0 b sd r ps) : ps = -1 ∨ pasP b sd ps := h.2.2.2.2.2.2.2.2
theorem gp0.me {b : Int → Int} {sd r ps : Int} (h : gp0 b sd r ps) {c : Int} (hc : 0 ≤ c ∧ c ≤ 1) : menP b c := by
  rcases (show c = 0 ∨ c = 1 by omega) with rfl | rfl
  · exact h.m0
  · exact h.m1
/-- a position of a game -/
def gp (b : Int → Int) (sd r ps : Int) : Prop := gp0 b sd r ps ∧ ¬ chkS b (1 - sd)
theorem gp.mOk {b : Int → Int} {sd r ps : Int} (h : gp b sd r ps) : mOk b sd r ps := ⟨h.1.bd, h.1.sd, h.1.rg, h.1.ps⟩
theorem gp.psOk {b : Int → Int} {sd r ps ck : Int} (h : gp b sd r ps) (hck : 0 ≤ ck ∧ ck ≤ 30000) : psOk b sd r ps ck := ⟨h.1.bd, h.1.sd, h.1.rg, h.1.ps, hck⟩
/-- where the class keeps the kings -/
def kg (b k : Int → Int) : Prop := ∀ c, 0 ≤ c → c ≤ 1 → (0 ≤ k c ∧ k c < 64) ∧ b (k c) = 6 + 8 * c
theorem king_un {b : Int → Int} {c s u : Int} (hb : bdOk b) (hc : 0 ≤ c ∧ c ≤ 1) (hm : menP b c) (hs : 0 ≤ s ∧ s < 64) (hu : 0 ≤ u ∧ u < 64) (es : b s = 6 + 8 * c) (eu : b u = 6 + 8 * c) : s = u := by
  have h1 : sumF (kiF b c) 64 = 1 := hm.1
  have hn : ∀ s : Int, 0 ≤ kiF b c s := fun s => dec_nn _
  have e1 : kiF b c s = 1 := dec_p ((ki_eq (hb s hs.1 hs.2) hc).mpr es)
  have e2 : kiF b c u = 1 := dec_p ((ki_eq (hb u hu.1 hu.2) hc).mpr eu)
  rcases Int.lt_trichotomy s u with h | h | h
  · have := sumF_pt2 (n := 64) hn hs.1 h (by omega)
    omega
  · exact h
  · have := sumF_pt2 (n := 64) hn hu.1 h (by omega)
    omega
theorem king_fk {b : Int → Int} {c s : Int} (hb : bdOk b) (hc : 0 ≤ c ∧ c ≤ 1) (hm : menP b c) (hs : 0 ≤ s ∧ s < 64) (es : b s = 6 + 8 * c) : fk b (6 + 8 * c) 64 0 = s := by
  have := men_king hb hm
  exact king_un hb hc hm this.1 hs this.2 es
theorem chk_iff {b : Int → Int} {c s : Int} (hb : bdOk b) (hc : 0 ≤ c ∧ c ≤ 1) (hm : menP b c) (hs : 0 ≤ s ∧ s < 64) (es : b s = 6 + 8 * c) : chkS b c ↔ 0 < sumF (manF b s (1 - c)) 64 := by
  unfold chkS
  rw [king_fk hb hc hm hs es]
  constructor
  · exact fun h => h.2
  · exact fun h => ⟨by omega, h⟩
theorem chk_cnt {b : Int → Int} {c s : Int} (hb : bdOk b) (hc : 0 ≤ c ∧ c ≤ 1) (hm : menP b c) (hs : 0 ≤ s ∧ s < 64) (es : b s = 6 + 8 * c) : chkS b c ↔ 0 < cntA b s (1 - c) 8 := by
  rw [chk_iff hb hc hm hs es, cnt_many hb (by omega) hs]
theorem man_nn {b : Int → Int} {s c : Int} : 0 ≤ sumF (manF b s c) 64 := sumF_nn (fun _ => dec_nn _)
theorem hit_chk {b : Int → Int} {c s f : Int} (hb : bdOk b) (hc : 0 ≤ c ∧ c ≤ 1) (hm : menP b c) (hs : 0 ≤ s ∧ s < 64) (es : b s = 6 + 8 * c) (hf : 0 ≤ f ∧ f < 64) (ho : ofS (b f) (1 - c)) (hh : hitS b f s) : chkS b c := by
  rw [chk_iff hb hc hm hs es]
  have := sumF_pt (f := manF b s (1 - c)) (s := f) (n := 64) (fun _ => dec_nn _) hf.1 (by omega)
  have e : manF b s (1 - c) f = 1 := dec_p ⟨ho, hh⟩
  omega
theorem kg_of {b k0 : Int → Int} (hb : bdOk b) (h0 : menP b 0) (h1 : menP b 1) : kg b (kOf k0 b) := by
  intro c hc1 hc2
  rcases (show c = 0 ∨ c = 1 by omega) with rfl | rfl
  · exact men_king hb h0
  · exact men_king hb h1
