/-! Numbers: what the machine's ints are, where the abstract ones are in range. -/
theorem ti {x : Int} (h : inR x) : (Int32.ofInt x).toInt = x := Int32.toInt_ofInt_of_le (by have := h.1; omega) (by have := h.2; omega)
theorem tl {x : Int} (h : inR x) : (Int64.ofInt x).toInt = x := Int64.toInt_ofInt_of_le (by have := h.1; omega) (by have := h.2; omega)
theorem oi_eq {x y : Int} (hx : inR x) (hy : inR y) : Int32.ofInt x = Int32.ofInt y ↔ x = y := by rw [← Int32.toInt_inj, ti hx, ti hy]
theorem oi_lt {x y : Int} (hx : inR x) (hy : inR y) : Int32.ofInt x < Int32.ofInt y ↔ x < y := by rw [Int32.lt_iff_toInt_lt, ti hx, ti hy]
theorem oi_le {x y : Int} (hx : inR x) (hy : inR y) : Int32.ofInt x ≤ Int32.ofInt y ↔ x ≤ y := by rw [Int32.le_iff_toInt_le, ti hx, ti hy]
theorem oi_0 : (0 : Int32) = Int32.ofInt 0 := rfl
theorem inR0 : inR 0 := by unfold inR; omega
theorem oi_nat (n : Nat) : Int32.ofInt (n : Int) = nI n := Int32.ofInt_eq_ofNat
theorem oi_cl {i : Int} (h0 : 0 ≤ i) (h1 : i ≤ 2147483647) : (Int32.ofInt i).toNatClampNeg = i.toNat := by
  obtain ⟨n, rfl⟩ := Int.eq_ofNat_of_zero_le h0
  rw [oi_nat, nI_clamp (by omega)]
  simp
theorem oi_in {i : Int} {n : Nat} (h0 : 0 ≤ i) (h1 : i < n) (hn : n < 2147483648) : vp_in (Int32.ofInt i) n := by
  rw [vp_in_iff, ti (by unfold inR; omega)]
  exact ⟨h0, h1⟩
theorem oi_div {x y : Int} (h0 : 0 ≤ x) (h1 : x ≤ 2147483647) (h2 : 0 < y) (h3 : y ≤ 2147483647) : Int32.ofInt x / Int32.ofInt y = Int32.ofInt (x / y) := by
  obtain ⟨a, rfl⟩ := Int.eq_ofNat_of_zero_le h0
  obtain ⟨d, rfl⟩ := Int.eq_ofNat_of_zero_le (Int.le_of_lt h2)
  rw [show ((a : Int) / (d : Int)) = ((a / d : Nat) : Int) from rfl, oi_nat, oi_nat, oi_nat, pk_div (by omega) (by omega) (by omega)]
theorem oi_rem {x y : Int} (h0 : 0 ≤ x) (h1 : x ≤ 2147483647) (h2 : 0 < y) (h3 : y ≤ 2147483647) : Int32.ofInt x - Int32.ofInt x / Int32.ofInt y * Int32.ofInt y = Int32.ofInt (x % y) := by
  obtain ⟨a, rfl⟩ := Int.eq_ofNat_of_zero_le h0
  obtain ⟨d, rfl⟩ := Int.eq_ofNat_of_zero_le (Int.le_of_lt h2)
  rw [show ((a : Int) % (d : Int)) = ((a % d : Nat) : Int) from rfl, oi_nat, oi_nat, oi_nat, pk_rem (by omega) (by omega) (by omega)]
theorem oi_ne0 {y : Int} (h2 : 0 < y) (h3 : y ≤ 2147483647) : ¬ Int32.ofInt y = 0 := by
  rw [oi_0, oi_eq (by unfold inR; omega) inR0]
  omega
theorem sh_l : ∀ n, n < 32 → ((nI n &&& 31).toBitVec.smod 32).toNat = n := by decide +kernel
theorem oi_shl {x y : Int} (h0 : 0 ≤ y) (h1 : y ≤ 31) : Int32.ofInt x <<< (Int32.ofInt y &&& 31) = Int32.ofInt (x * 2 ^ y.toNat) := by
  obtain ⟨n, rfl⟩ := Int.eq_ofNat_of_zero_le h0
  have hn : n < 32 := by omega
  have hp : (2 : Nat) ^ n < 4294967296 := Nat.lt_of_lt_of_le (Nat.pow_lt_pow_right (by omega) hn) (by decide)
  rw [oi_nat, Int32.ofInt_mul]
  apply Int32.toBitVec.inj
  apply BitVec.eq_of_toNat_eq
  rw [pk_shl _ _ n (sh_l n hn), Int32.toBitVec_mul, BitVec.toNat_mul]
  congr 2
  rw [show ((2 : Int) ^ (n : Int).toNat) = ((2 ^ n : Nat) : Int) by simp, oi_nat]
  rw [pk_tn (by omega)]
theorem oi_shr {x y : Int} (hx : inR x) (h0 : 0 ≤ y) (h1 : y ≤ 31) : Int32.ofInt x >>> (Int32.ofInt y &&& 31) = Int32.ofInt (x / 2 ^ y.toNat) := by
  obtain ⟨n, rfl⟩ := Int.eq_ofNat_of_zero_le h0
  have hn : n < 32 := by omega
  have e1 : (Int32.ofInt x >>> (Int32.ofInt (n : Int) &&& 31)).toInt = x / 2 ^ n := by
    rw [oi_nat, pk_shr _ _ n (sh_l n hn), ti hx, Int.shiftRight_eq_div_pow]
    simp
  have h2 : inR (x / 2 ^ n) := by rw [← e1]; exact ⟨Int32.le_toInt _, by have := Int32.toInt_lt (Int32.ofInt x >>> (Int32.ofInt (n : Int) &&& 31)); omega⟩
  rw [← Int32.toInt_inj, e1, show (n : Int).toNat = n from rfl, ti h2]
theorem oi_i2l {x : Int} (h : inR x) : (Int32.ofInt x).toInt64 = Int64.ofInt x := by rw [← Int64.toInt_inj, Int32.toInt_toInt64, ti h, tl h]
theorem oi_i2b {x : Int} (h0 : -128 ≤ x) (h1 : x ≤ 127) : (Int32.ofInt x).toInt8.toInt32 = Int32.ofInt x := by
  have hx : inR x := by unfold inR; omega
  rw [← Int32.toInt_inj, Int8.toInt_toInt32, Int32.toInt_toInt8, ti hx]
  exact Int.bmod_eq_of_le (by omega) (by omega)
theorem oi_i2s {x : Int} (h0 : -32768 ≤ x) (h1 : x ≤ 32767) : (Int32.ofInt x).toInt16.toInt32 = Int32.ofInt x := by
  have hx : inR x := by unfold inR; omega
  rw [← Int32.toInt_inj, Int16.toInt_toInt32, Int32.toInt_toInt16, ti hx]
  exact Int.bmod_eq_of_le (by omega) (by omega)
theorem oi_b8 {x : Int} (h0 : -128 ≤ x) (h1 : x ≤ 127) : (Int8.ofInt x).toInt32 = Int32.ofInt x := by
  have hx : inR x := by unfold inR; omega
  rw [← Int32.toInt_inj, Int8.toInt_toInt32, Int8.toInt_ofInt_of_le (by omega) (by omega), ti hx]
theorem oi_b16 {x : Int} (h0 : -32768 ≤ x) (h1 : x ≤ 32767) : (Int16.ofInt x).toInt32 = Int32.ofInt x := by
  have hx : inR x := by unfold inR; omega
  rw [← Int32.toInt_inj, Int16.toInt_toInt32, Int16.toInt_ofInt_of_le (by omega) (by omega), ti hx]
theorem oi_cmp (x y : Int64) : lg_cmp x y = Int32.ofInt (lcm3 x y) := by
  unfold lg_cmp lcm3
  split
  · rfl
  · split <;> rfl
theorem oi_and (x y : Int) : Int32.ofInt x &&& Int32.ofInt y = Int32.ofInt (aand x y) := by unfold aand; rw [Int32.ofInt_toInt]
theorem oi_or (x y : Int) : Int32.ofInt x ||| Int32.ofInt y = Int32.ofInt (aor x y) := by unfold aor; rw [Int32.ofInt_toInt]
theorem oi_xor (x y : Int) : Int32.ofInt x ^^^ Int32.ofInt y = Int32.ofInt (axor x y) := by unfold axor; rw [Int32.ofInt_toInt]
