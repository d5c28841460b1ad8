/-! ===== bits as arithmetic ===== -/
theorem bv_nat (x : Int) : (Int32.ofInt x).toBitVec.toNat = (x % 4294967296).toNat := by
  rw [Int32.toBitVec_ofInt, BitVec.toNat_ofInt]
  rfl
theorem pand_nat {x y : Int} (h : ((x % 4294967296).toNat &&& (y % 4294967296).toNat) < 2147483648) : pand x y = (((x % 4294967296).toNat &&& (y % 4294967296).toNat : Nat) : Int) := by
  unfold pand
  rw [← Int32.toInt_toBitVec, Int32.toBitVec_and, BitVec.toInt_eq_toNat_of_lt, BitVec.toNat_and, bv_nat, bv_nat]
  rw [BitVec.toNat_and, bv_nat, bv_nat]
  omega
theorem pand_mask {x : Int} {m n : Nat} (hn : n < 31) (hm : m = 2 ^ n - 1) : pand x (m : Int) = x % ((2 ^ n : Nat) : Int) := by
  have h1 : 2 ^ n ≤ 2 ^ 30 := Nat.pow_le_pow_right (by omega) (by omega)
  have h0 : 0 < 2 ^ n := Nat.two_pow_pos n
  have e : ((m : Int) % 4294967296).toNat = 2 ^ n - 1 := by omega
  have hlt : (x % 4294967296).toNat % 2 ^ n < 2 ^ n := Nat.mod_lt _ h0
  have hd : ∃ k : Nat, 4294967296 = 2 ^ n * k := ⟨2 ^ (32 - n), by rw [← Nat.pow_add, show n + (32 - n) = 32 by omega]⟩
  rw [pand_nat (by rw [e, Nat.and_two_pow_sub_one_eq_mod]; omega), e, Nat.and_two_pow_sub_one_eq_mod, Int.natCast_emod, Int.toNat_of_nonneg (by omega)]
  obtain ⟨k, hk⟩ := hd
  rw [show (4294967296 : Int) = ((2 ^ n : Nat) : Int) * (k : Int) by rw [← Int.natCast_mul, ← hk]; rfl]
  exact Int.emod_emod_of_dvd _ ⟨_, rfl⟩
theorem pand_3 (x : Int) : pand x 3 = x % 4 := pand_mask (m := 3) (n := 2) (by decide) rfl
theorem pand_15 (x : Int) : pand x 15 = x % 16 := pand_mask (m := 15) (n := 4) (by decide) rfl
theorem pand_31 (x : Int) : pand x 31 = x % 32 := pand_mask (m := 31) (n := 5) (by decide) rfl
theorem pand_255 (x : Int) : pand x 255 = x % 256 := pand_mask (m := 255) (n := 8) (by decide) rfl
theorem pand_65535 (x : Int) : pand x 65535 = x % 65536 := pand_mask (m := 65535) (n := 16) (by decide) rfl
theorem pshr_nat {x : Int} (hx : InR x) {s : Nat} {si : Int} (hs : (Int32.ofInt si &&& 31).toBitVec.smod 32 = BitVec.ofNat 32 s) (h2 : s < 32) : pshr x si = x / ((2 ^ s : Nat) : Int) := by
  unfold pshr
  rw [← Int32.toInt_toBitVec, Int32.toBitVec_shiftRight, hs]
  show ((Int32.ofInt x).toBitVec.sshiftRight (BitVec.ofNat 32 s).toNat).toInt = _
  rw [BitVec.toInt_sshiftRight, BitVec.toNat_ofNat, Nat.mod_eq_of_lt (by omega), Int32.toInt_toBitVec, oi_toInt hx, Int.shiftRight_eq_div_pow]
theorem pshr_24 {x : Int} (hx : InR x) : pshr x 24 = x / 16777216 := pshr_nat (s := 24) hx (by decide) (by decide)
theorem pshr_16 {x : Int} (hx : InR x) : pshr x 16 = x / 65536 := pshr_nat (s := 16) hx (by decide) (by decide)
theorem pshr_2 {x : Int} (hx : InR x) : pshr x 2 = x / 4 := pshr_nat (s := 2) hx (by decide) (by decide)
theorem pshr_6 {x : Int} (hx : InR x) : pshr x 6 = x / 64 := pshr_nat (s := 6) hx (by decide) (by decide)
theorem pshl_nat {x : Int} {s : Nat} {si : Int} (hs : (Int32.ofInt si &&& 31).toBitVec.smod 32 = BitVec.ofNat 32 s) (h2 : s < 32) (h0 : 0 ≤ x) (h1 : x * ((2 ^ s : Nat) : Int) < 2147483648) : pshl x si = x * ((2 ^ s : Nat) : Int) := by
  have hp : 0 < 2 ^ s := Nat.two_pow_pos s
  obtain ⟨k, rfl⟩ := Int.eq_ofNat_of_zero_le h0
  have h1 : k * 2 ^ s < 2147483648 := Int.ofNat_lt.mp (show ((k * 2 ^ s : Nat) : Int) < ((2147483648 : Nat) : Int) by rw [Int.natCast_mul]; exact h1)
  have hk : k ≤ k * 2 ^ s := Nat.le_mul_of_pos_right k hp
  have e1 : ((Int32.ofInt (k : Int)).toBitVec <<< (BitVec.ofNat 32 s)).toNat = k * 2 ^ s := by
    rw [BitVec.shiftLeft_eq', BitVec.toNat_shiftLeft, bv_nat, BitVec.toNat_ofNat, Nat.mod_eq_of_lt (show s < 2 ^ 32 by omega), Nat.shiftLeft_eq, show ((k : Int) % 4294967296).toNat = k by omega, Nat.mod_eq_of_lt (by omega)]
  unfold pshl
  rw [← Int32.toInt_toBitVec, Int32.toBitVec_shiftLeft, hs, BitVec.toInt_eq_toNat_of_lt (by rw [e1]; omega), e1, Int.natCast_mul]
theorem pshl_24 {x : Int} (h0 : 0 ≤ x) (h1 : x < 128) : pshl x 24 = x * 16777216 := pshl_nat (s := 24) (by decide) (by decide) h0 (by show x * 16777216 < _; omega)
theorem pshl_16 {x : Int} (h0 : 0 ≤ x) (h1 : x < 32768) : pshl x 16 = x * 65536 := pshl_nat (s := 16) (by decide) (by decide) h0 (by show x * 65536 < _; omega)
theorem pshl_2 {x : Int} (h0 : 0 ≤ x) (h1 : x < 500000000) : pshl x 2 = x * 4 := pshl_nat (s := 2) (by decide) (by decide) h0 (by show x * 4 < _; omega)
theorem pshl_6 {x : Int} (h0 : 0 ≤ x) (h1 : x < 33554432) : pshl x 6 = x * 64 := pshl_nat (s := 6) (by decide) (by decide) h0 (by show x * 64 < _; omega)
/-- an 'or' of what has no bits in common is a sum -/
theorem por_add {a b : Int} {n : Nat} (hn : n < 31) (ha : 0 ≤ a) (hb : 0 ≤ b) (hb2 : b < ((2 ^ n : Nat) : Int)) (had : ((2 ^ n : Nat) : Int) ∣ a) (hs : a < 1073741824) : por a b = a + b := by
  have hp : 0 < 2 ^ n := Nat.two_pow_pos n
  have h1 : 2 ^ n ≤ 2 ^ 30 := Nat.pow_le_pow_right (by omega) (by omega)
  obtain ⟨k, rfl⟩ := Int.eq_ofNat_of_zero_le ha
  obtain ⟨j, rfl⟩ := Int.eq_ofNat_of_zero_le hb
  have had : 2 ^ n ∣ k := Int.ofNat_dvd.mp had
  have hb2 : j < 2 ^ n := Int.ofNat_lt.mp hb2
  obtain ⟨q, rfl⟩ := had
  have hs : 2 ^ n * q < 1073741824 := Int.ofNat_lt.mp (show ((2 ^ n * q : Nat) : Int) < ((1073741824 : Nat) : Int) from hs)
  have e1 : ((Int32.ofInt ((2 ^ n * q : Nat) : Int)).toBitVec ||| (Int32.ofInt (j : Int)).toBitVec).toNat = 2 ^ n * q + j := by
    rw [BitVec.toNat_or, bv_nat, bv_nat, show (((2 ^ n * q : Nat) : Int) % 4294967296).toNat = 2 ^ n * q by omega, show ((j : Int) % 4294967296).toNat = j by omega]
    exact (Nat.two_pow_add_eq_or_of_lt hb2 q).symm
  unfold por
  rw [← Int32.toInt_toBitVec, Int32.toBitVec_or, BitVec.toInt_eq_toNat_of_lt (by rw [e1]; omega), e1]
  exact Int.natCast_add _ _
