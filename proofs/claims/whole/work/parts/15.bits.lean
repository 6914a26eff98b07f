/-! Masks, shifts and sums of small numbers. -/
theorem tn_oi (x : Int) : ((Int32.ofInt x).toBitVec.toNat : Int) = x % 4294967296 := by
  rw [Int32.toBitVec_ofInt, BitVec.toNat_ofInt]
  omega
theorem aand_m {x m : Int} (k : Nat) (hk : k ≤ 31) (hm : m = 2 ^ k - 1) : aand x m = x % 2 ^ k := by
  have hp : (2 : Nat) ^ k ≤ 2147483648 := Nat.pow_le_pow_right (by omega) hk
  have hp0 : 0 < (2 : Nat) ^ k := Nat.pow_pos (by omega)
  have e0 : ((2 : Int) ^ k) = ((2 ^ k : Nat) : Int) := by simp
  have em : Int32.ofInt m = nI (2 ^ k - 1) := by
    rw [hm, e0, show (((2 ^ k : Nat) : Int) - 1) = ((2 ^ k - 1 : Nat) : Int) by omega, oi_nat]
  unfold aand
  rw [em, pk_and _ k (by rw [pk_tn (by omega)])]
  have h1 : (Int32.ofInt x).toBitVec.toNat % 2 ^ k < 2 ^ k := Nat.mod_lt _ hp0
  rw [nI_toInt (by omega), e0, Int.natCast_emod, tn_oi]
  rw [Int.emod_emod_of_dvd]
  rw [show (4294967296 : Int) = ((2 ^ 32 : Nat) : Int) from rfl]
  exact Int.ofNat_dvd.mpr (Nat.pow_dvd_pow 2 (by omega))
theorem aand_7 (x : Int) : aand x 7 = x % 8 := aand_m 3 (by omega) rfl
theorem aand_63 (x : Int) : aand x 63 = x % 64 := aand_m 6 (by omega) rfl
theorem aand_15 (x : Int) : aand x 15 = x % 16 := aand_m 4 (by omega) rfl
theorem aand_31 (x : Int) : aand x 31 = x % 32 := aand_m 5 (by omega) rfl
theorem aand_127 (x : Int) : aand x 127 = x % 128 := aand_m 7 (by omega) rfl
theorem aand_1 (x : Int) : aand x 1 = x % 2 := aand_m 1 (by omega) rfl
theorem aor_add {a b : Int} (k : Nat) (ha : 0 ≤ a) (hd : a % 2 ^ k = 0) (hb : 0 ≤ b) (hk : b < 2 ^ k) (hs : a + b ≤ 2147483647) : aor a b = a + b := by
  obtain ⟨n, rfl⟩ := Int.eq_ofNat_of_zero_le ha
  obtain ⟨i, rfl⟩ := Int.eq_ofNat_of_zero_le hb
  have e0 : ((2 : Int) ^ k) = ((2 ^ k : Nat) : Int) := by simp
  rw [e0] at hd hk
  have hd2 : n % 2 ^ k = 0 := by exact_mod_cast hd
  have hi : i < 2 ^ k := by exact_mod_cast hk
  have e1 : n = 2 ^ k * (n / 2 ^ k) := by have := Nat.div_add_mod n (2 ^ k); omega
  have e2 : n ||| i = n + i := by
    rw [e1, ← Nat.two_pow_add_eq_or_of_lt hi]
  unfold aor
  rw [oi_nat, oi_nat]
  have e3 : nI n ||| nI i = nI (n ||| i) := by
    apply Int32.toBitVec.inj
    apply BitVec.eq_of_toNat_eq
    rw [Int32.toBitVec_or, BitVec.toNat_or, pk_tn (by omega), pk_tn (by omega), pk_tn (by rw [e2]; omega)]
  rw [e3, e2, nI_toInt (by omega)]
  omega
def clr (r k : Int) : Int := if r / 2 ^ k.toNat % 2 = 1 then r - 2 ^ k.toNat else r
theorem aand_clr : ∀ r : Nat, r < 16 → ∀ k : Nat, k < 4 → aand (r : Int) (axor (1 * 2 ^ k) (-1)) = clr r k := by decide +kernel
