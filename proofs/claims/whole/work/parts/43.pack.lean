/-! Packed quarters: what their bits are. -/
theorem shl_amt : ∀ n : Nat, n < 16 → ((((Int32.ofInt (4 * (n : Int))).toInt64 &&& 63).toBitVec.smod 64).toNat = 4 * n) := by decide
theorem shl_amt4 : ((((Int32.ofInt 4).toInt64 &&& 63).toBitVec.smod 64).toNat = 4) := by decide
theorem bit_shl (x : Int64) (k i : Nat) (a : Int64) (ha : (a.toBitVec.smod 64).toNat = k) : (x <<< a).toBitVec.getLsbD i = (decide (i < 64) && !decide (i < k) && x.toBitVec.getLsbD (i - k)) := by
  rw [Int64.toBitVec_shiftLeft, BitVec.shiftLeft_eq', BitVec.getLsbD_shiftLeft, ha]
theorem bit_shr (x : Int64) (k i : Nat) (a : Int64) (ha : (a.toBitVec.smod 64).toNat = k) (hi : k + i < 64) : (x >>> a).toBitVec.getLsbD i = x.toBitVec.getLsbD (k + i) := by
  rw [Int64.toBitVec_shiftRight, BitVec.sshiftRight_eq', BitVec.getLsbD_sshiftRight, ha, if_pos hi]
  simp
  omega
theorem bit_ofInt {v : Int} (h0 : 0 ≤ v) (h1 : v ≤ 15) (i : Nat) : (Int64.ofInt v).toBitVec.getLsbD i = v.toNat.testBit i := by
  obtain ⟨m, rfl⟩ := Int.eq_ofNat_of_zero_le h0
  rw [Int64.toBitVec_ofInt, BitVec.ofInt_natCast, BitVec.getLsbD_ofNat, Int.toNat_natCast]
  by_cases hi : i < 64
  · simp [hi]
  · have : m.testBit i = false := by
      refine Nat.testBit_lt_two_pow (Nat.lt_of_lt_of_le (show m < 2 ^ 4 by omega) (Nat.pow_le_pow_right (by omega) (by omega)))
    rw [this, Bool.and_false]
theorem tb_hi {m i : Nat} (hm : m < 16) (hi : 4 ≤ i) : m.testBit i = false := Nat.testBit_lt_two_pow (Nat.lt_of_lt_of_le (show m < 2 ^ 4 by omega) (Nat.pow_le_pow_right (by omega) hi))
theorem pkR_bit {B : Int → Int} {s0 : Int} : ∀ {n : Nat}, n ≤ 16 → (∀ i : Nat, i < n → 0 ≤ B (s0 + i) ∧ B (s0 + i) ≤ 15) → ∀ i : Nat, (pkR B s0 n).toBitVec.getLsbD i = (decide (i / 4 < n) && (B (s0 + ((i / 4 : Nat) : Int))).toNat.testBit (i % 4))
  | 0, _, _, i => by simp [pkR]
  | n + 1, hn, hB, i => by
    have hb := hB n (by omega)
    rw [pkR, Int64.toBitVec_or, BitVec.getLsbD_or, pkR_bit (n := n) (by omega) (fun i hi => hB i (by omega)) i, bit_shl _ (4 * n) i _ (shl_amt n (by omega)), bit_ofInt hb.1 hb.2]
    by_cases h1 : i / 4 < n
    · rw [decide_eq_true h1, decide_eq_true (show i / 4 < n + 1 by omega), decide_eq_true (show i < 4 * n by omega)]
      simp
    · rw [decide_eq_false h1, decide_eq_false (show ¬ i < 4 * n by omega)]
      by_cases h2 : i / 4 = n
      · rw [decide_eq_true (show i / 4 < n + 1 by omega), decide_eq_true (show i < 64 by omega), h2, show i - 4 * n = i % 4 by omega]
        simp
      · rw [decide_eq_false (show ¬ i / 4 < n + 1 by omega), tb_hi (by omega) (show 4 ≤ i - 4 * n by omega)]
        simp
theorem pkN_bit {B : Int → Int} {s0 : Int} : ∀ {n : Nat}, n ≤ 16 → (∀ i : Nat, i < n → 0 ≤ B (s0 + i) ∧ B (s0 + i) ≤ 15) → ∀ i : Nat, (pkN B s0 n).toBitVec.getLsbD i = (decide (i / 4 < n) && (B (s0 + ((n - 1 - i / 4 : Nat) : Int))).toNat.testBit (i % 4))
  | 0, _, _, i => by simp [pkN]
  | n + 1, hn, hB, i => by
    have hb := hB n (by omega)
    rw [pkN, Int64.toBitVec_or, BitVec.getLsbD_or, bit_shl _ 4 i _ shl_amt4, pkN_bit (n := n) (by omega) (fun i hi => hB i (by omega)) (i - 4), bit_ofInt hb.1 hb.2]
    by_cases h1 : i < 4
    · rw [decide_eq_true h1, decide_eq_true (show i / 4 < n + 1 by omega), show n + 1 - 1 - i / 4 = n by omega, show i % 4 = i by omega]
      simp
    · rw [decide_eq_false h1, tb_hi (by omega) (show 4 ≤ i by omega), show (i - 4) % 4 = i % 4 by omega, show n - 1 - (i - 4) / 4 = n + 1 - 1 - i / 4 by omega]
      by_cases h2 : i / 4 < n + 1
      · rw [decide_eq_true h2, decide_eq_true (show (i - 4) / 4 < n by omega), decide_eq_true (show i < 64 by omega)]
        simp
      · rw [decide_eq_false h2, decide_eq_false (show ¬ (i - 4) / 4 < n by omega)]
        simp
theorem nib_eq {a b : Nat} (ha : a < 16) (hb : b < 16) (h : ∀ i, i < 4 → a.testBit i = b.testBit i) : a = b := by
  apply Nat.eq_of_testBit_eq
  intro i
  by_cases hi : i < 4
  · exact h i hi
  · rw [tb_hi ha (by omega), tb_hi hb (by omega)]
theorem pkR_cong {B C : Int → Int} {s0 : Int} : ∀ {n : Nat}, (∀ i : Nat, i < n → B (s0 + i) = C (s0 + i)) → pkR B s0 n = pkR C s0 n
  | 0, _ => rfl
  | n + 1, h => by rw [pkR, pkR, pkR_cong (n := n) (fun i hi => h i (by omega)), h n (by omega)]
theorem pkN_cong {B C : Int → Int} {s0 : Int} : ∀ {n : Nat}, (∀ i : Nat, i < n → B (s0 + i) = C (s0 + i)) → pkN B s0 n = pkN C s0 n
  | 0, _ => rfl
  | n + 1, h => by rw [pkN, pkN, pkN_cong (n := n) (fun i hi => h i (by omega)), h n (by omega)]
theorem pkR_inj {B C : Int → Int} {s0 : Int} (hB : ∀ i : Nat, i < 16 → 0 ≤ B (s0 + i) ∧ B (s0 + i) ≤ 15) (hC : ∀ i : Nat, i < 16 → 0 ≤ C (s0 + i) ∧ C (s0 + i) ≤ 15) (h : pkR B s0 16 = pkR C s0 16) : ∀ i : Nat, i < 16 → B (s0 + i) = C (s0 + i) := by
  intro i hi
  have hb := hB i hi
  have hc := hC i hi
  have := nib_eq (a := (B (s0 + i)).toNat) (b := (C (s0 + i)).toNat) (by omega) (by omega) (fun j hj => by
    have e1 := pkR_bit (n := 16) (by omega) hB (4 * i + j)
    have e2 := pkR_bit (n := 16) (by omega) hC (4 * i + j)
    rw [h, e2, show (4 * i + j) / 4 = i by omega, show (4 * i + j) % 4 = j by omega, decide_eq_true hi, Bool.true_and, Bool.true_and] at e1
    exact e1.symm)
  omega
theorem pkN_inj {B C : Int → Int} {s0 : Int} (hB : ∀ i : Nat, i < 16 → 0 ≤ B (s0 + i) ∧ B (s0 + i) ≤ 15) (hC : ∀ i : Nat, i < 16 → 0 ≤ C (s0 + i) ∧ C (s0 + i) ≤ 15) (h : pkN B s0 16 = pkN C s0 16) : ∀ i : Nat, i < 16 → B (s0 + i) = C (s0 + i) := by
  intro i hi
  have hb := hB i hi
  have hc := hC i hi
  have := nib_eq (a := (B (s0 + i)).toNat) (b := (C (s0 + i)).toNat) (by omega) (by omega) (fun j hj => by
    have e1 := pkN_bit (n := 16) (by omega) hB (4 * (15 - i) + j)
    have e2 := pkN_bit (n := 16) (by omega) hC (4 * (15 - i) + j)
    rw [h, e2, show (4 * (15 - i) + j) / 4 = 15 - i by omega, show (4 * (15 - i) + j) % 4 = j by omega, decide_eq_true (show 15 - i < 16 by omega), Bool.true_and, Bool.true_and, show 16 - 1 - (15 - i) = i by omega] at e1
    exact e1.symm)
  omega
/-- taking a cell out of a packed quarter -/
theorem pkR_get {B : Int → Int} {s0 : Int} {k : Nat} (hk : k < 16) (hB : ∀ i : Nat, i < 16 → 0 ≤ B (s0 + i) ∧ B (s0 + i) ≤ 15) : ((pkR B s0 16 >>> ((Int32.ofInt (4 * (k : Int))).toInt64 &&& 63)) &&& 15).toInt32.toInt = B (s0 + k) := by
  have hb := hB k hk
  have e1 : ((pkR B s0 16 >>> ((Int32.ofInt (4 * (k : Int))).toInt64 &&& 63)) &&& 15) = Int64.ofInt (B (s0 + k)) := by
    apply Int64.toBitVec.inj
    apply BitVec.eq_of_getLsbD_eq
    intro i hi
    rw [Int64.toBitVec_and, BitVec.getLsbD_and, bit_ofInt hb.1 hb.2]
    have e15 : (15 : Int64).toBitVec.getLsbD i = Nat.testBit 15 i := by
      show (BitVec.ofNat 64 15).getLsbD i = _
      rw [BitVec.getLsbD_ofNat, decide_eq_true hi, Bool.true_and]
    rw [e15]
    by_cases h4 : i < 4
    · rw [bit_shr _ (4 * k) i _ (shl_amt k hk) (by omega), pkR_bit (n := 16) (by omega) hB, show (4 * k + i) / 4 = k by omega, show (4 * k + i) % 4 = i by omega, decide_eq_true hk]
      have : ∀ i : Nat, i < 4 → Nat.testBit 15 i = true := by decide
      rw [this i h4]
      simp
    · rw [tb_hi (by omega) (show 4 ≤ i by omega), tb_hi (by omega) (show 4 ≤ i by omega)]
      simp
  rw [e1]
  have : ∀ m : Nat, m < 16 → (Int64.ofInt (m : Int)).toInt32.toInt = m := by decide
  obtain ⟨m, hm⟩ := Int.eq_ofNat_of_zero_le hb.1
  rw [hm]
  exact this m (by omega)
