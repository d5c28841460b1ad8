/-! ===== whole numbers and what the machine keeps of them ===== -/
def InR (x : Int) : Prop := -2147483648 ≤ x ∧ x ≤ 2147483647
theorem inR_toInt (x : Int32) : InR x.toInt := by
  have h1 := x.le_toInt
  have h2 := x.toInt_lt
  constructor <;> omega
theorem wr_inR (x : Int) : InR (wr x) := by unfold wr InR; omega
theorem wr_of {x : Int} (h : InR x) : wr x = x := by unfold InR at h; unfold wr; omega
theorem wb_inR (x : Int) : InR (wb x) := by unfold wb InR; omega
theorem wr_bmod (x : Int) : wr x = x.bmod 4294967296 := by
  unfold wr Int.bmod
  dsimp only
  split <;> omega
theorem oi_toInt {x : Int} (h : InR x) : (Int32.ofInt x).toInt = x := Int32.toInt_ofInt_of_le (by unfold InR at h; omega) (by unfold InR at h; omega)
theorem oi_wr (x : Int) : Int32.ofInt (wr x) = Int32.ofInt x := by
  apply Int32.toInt_inj.mp
  rw [oi_toInt (wr_inR x), Int32.toInt_ofInt, wr_bmod]
theorem oi_add (x y : Int) : Int32.ofInt x + Int32.ofInt y = Int32.ofInt (wr (x + y)) := by rw [oi_wr, Int32.ofInt_add]
theorem oi_sub (x y : Int) : Int32.ofInt x - Int32.ofInt y = Int32.ofInt (wr (x - y)) := by rw [oi_wr, Int32.ofInt_sub]
theorem oi_mul (x y : Int) : Int32.ofInt x * Int32.ofInt y = Int32.ofInt (wr (x * y)) := by rw [oi_wr, Int32.ofInt_mul]
theorem oi_lt {x y : Int} (hx : InR x) (hy : InR y) : Int32.ofInt x < Int32.ofInt y ↔ x < y := by rw [Int32.lt_iff_toInt_lt, oi_toInt hx, oi_toInt hy]
theorem oi_le {x y : Int} (hx : InR x) (hy : InR y) : Int32.ofInt x ≤ Int32.ofInt y ↔ x ≤ y := by rw [Int32.le_iff_toInt_le, oi_toInt hx, oi_toInt hy]
theorem oi_eq {x y : Int} (hx : InR x) (hy : InR y) : Int32.ofInt x = Int32.ofInt y ↔ x = y := by rw [← Int32.toInt_inj, oi_toInt hx, oi_toInt hy]
theorem oi_clamp {x : Int} (hx : InR x) : (Int32.ofInt x).toNatClampNeg = x.toNat := Int32.toNatClampNeg_ofInt_of_le (by unfold InR at hx; omega) (by unfold InR at hx; omega)
theorem inR_0 : InR 0 := by unfold InR; omega
theorem oi_0 : Int32.ofInt 0 = 0 := rfl
theorem oi_back (x : Int32) : Int32.ofInt x.toInt = x := Int32.ofInt_toInt x
theorem oi_vpin {x : Int} (hx : InR x) {n : Nat} (h : 0 ≤ x ∧ x < (n : Int)) : vp_in (Int32.ofInt x) n := by
  intro q
  rcases q with q | q
  · rw [← oi_0, oi_lt hx inR_0] at q; omega
  · rw [oi_clamp hx] at q; omega
theorem oi_byte (x : Int) : (Int32.ofInt x).toInt8.toInt32 = Int32.ofInt (wb x) := by
  apply Int32.toInt_inj.mp
  rw [oi_toInt (wb_inR x), Int8.toInt_toInt32, Int32.toInt8_ofInt, Int8.toInt_ofInt]
  unfold wb Int.bmod Int8.size
  dsimp only
  split <;> omega
theorem nar_byte (x : Int) : vp_nar .byte (Int32.ofInt x) = Int32.ofInt (wb x) := oi_byte x
theorem nar_bool {x : Int} (h : x = 0 ∨ x = 1) : vp_nar .boolean (Int32.ofInt x) = Int32.ofInt x := by
  rcases h with rfl | rfl <;> decide
theorem oi_bi (c : Int) (h : -128 ≤ c ∧ c < 128) : (Int8.ofInt c).toInt32 = Int32.ofInt c := by
  rw [← Int32.toInt8_ofInt, oi_byte]
  congr 1
  unfold wb
  omega
theorem oi_si (c : Int) (h : -32768 ≤ c ∧ c < 32768) : (Int16.ofInt c).toInt32 = Int32.ofInt c := by
  apply Int32.toInt_inj.mp
  rw [oi_toInt (by unfold InR; omega), Int16.toInt_toInt32, Int16.toInt_ofInt]
  unfold Int.bmod Int16.size
  dsimp only
  split <;> omega
