/-! ===== where what lies, and what stays ===== -/
abbrev HE : Type := Nat ⊕ (Nat × Nat)
def hL1 : List HE := [.inl 11, .inl 6, .inr (1, 800), .inr (0, 20), .inr (0, 20), .inl 2, .inr (0, 40), .inl 10, .inr (1, 73728), .inr (0, 512), .inl 3, .inr (0, 40), .inr (0, 40), .inr (0, 40), .inr (0, 40), .inr (0, 40), .inr (0, 40), .inr (2, 1600), .inr (2, 1600), .inl 8, .inr (0, 12), .inl 2, .inr (0, 20480), .inl 2, .inr (0, 20480), .inl 9, .inr (5, 120), .inr (5, 120)]
def hLN : List HE := [.inl 4, .inl 2, .inr (0, 40), .inr (0, 40), .inl 2, .inr (0, 100)]
def hL2 : List HE := [.inl 2, .inr (0, 256), .inl 2, .inr (0, 20480), .inl 7, .inl 2, .inr (0, 10240), .inr (0, 44), .inr (3, 4), .inl 2, .inr (0, 40), .inl 2, .inr (0, 40), .inl 2, .inr (0, 40), .inl 2, .inr (0, 40), .inl 2, .inr (0, 100), .inl 2, .inr (0, 100), .inl 2, .inr (0, 100)]
def hLC : List HE := [.inl 1, .inr (0, 11), .inl 2, .inr (0, 100)]
def hL3 : List HE := [.inl 0, .inr (0, 200), .inr (0, 200), .inl 2, .inr (0, 800), .inl 0, .inr (0, 200), .inr (0, 200), .inl 2, .inr (0, 800), .inl 12, .inr (1, 800), .inr (0, 20), .inr (0, 20), .inr (0, 41), .inr (0, 80), .inr (0, 80), .inr (0, 80), .inr (0, 960), .inr (0, 80), .inr (0, 8000), .inr (0, 2), .inr (0, 12), .inr (0, 40), .inr (0, 40), .inr (0, 40), .inr (0, 480), .inr (0, 40), .inr (0, 1600), .inr (0, 100), .inr (0, 200), .inr (0, 200), .inr (0, 800), .inr (0, 160), .inr (0, 4), .inr (0, 200), .inr (0, 200), .inr (0, 800), .inr (0, 120), .inr (0, 13000), .inr (0, 13000), .inr (0, 12), .inr (0, 4), .inr (0, 120), .inr (0, 120), .inr (0, 120), .inr (2, 1681), .inr (0, 41), .inr (1, 80000), .inr (0, 13000), .inr (0, 4800), .inr (0, 120), .inr (0, 120), .inr (0, 120), .inr (0, 120), .inr (0, 120), .inr (0, 120), .inr (0, 120), .inr (0, 120), .inr (0, 41), .inr (0, 300), .inr (0, 120), .inr (0, 120), .inr (0, 120), .inr (0, 120), .inr (0, 12000), .inr (0, 120), .inr (0, 100), .inr (0, 40), .inr (0, 120)]
theorem nbeq : ∀ n, Nat.beq n n = true
  | 0 => rfl
  | n + 1 => nbeq n
/-- what stands at an address when all is made -/
def HT (a : Nat) : HE :=
  if a < 30 then hL1.getD (a - 2) (.inl 99)
  else if a < 750 then hLN.getD ((a - 30) % 6) (.inl 99)
  else if a < 773 then hL2.getD (a - 750) (.inl 99)
  else if a < 1259 then (if (a - 773) % 162 = 0 then .inl 5 else if (a - 773) % 162 = 1 then .inr (4, 40) else hLC.getD (((a - 773) % 162 - 2) % 4) (.inl 99))
  else hL3.getD (a - 1259) (.inl 99)
def obj (a c : Nat) : Prop := 2 ≤ a ∧ a < 1329 ∧ HT a = .inl c
def arr (a kd n : Nat) : Prop := 2 ≤ a ∧ a < 1329 ∧ HT a = .inr (kd, n)
theorem obj_of (a c : Nat) (h : (Nat.ble 2 a && (Nat.blt a 1329 && decide (HT a = .inl c))) = true) : obj a c := by
  simp only [Bool.and_eq_true, decide_eq_true_eq] at h
  exact ⟨Nat.le_of_ble_eq_true h.1, Nat.le_of_ble_eq_true h.2.1, h.2.2⟩
theorem arr_of (a kd n : Nat) (h : (Nat.ble 2 a && (Nat.blt a 1329 && decide (HT a = .inr (kd, n)))) = true) : arr a kd n := by
  simp only [Bool.and_eq_true, decide_eq_true_eq] at h
  exact ⟨Nat.le_of_ble_eq_true h.1, Nat.le_of_ble_eq_true h.2.1, h.2.2⟩
theorem HT_node {k j : Nat} (hk : k < 120) (hj : j < 6) : HT (30 + 6 * k + j) = hLN.getD j (.inl 99) := by
  unfold HT
  rw [if_neg (by omega), if_pos (by omega), show (30 + 6 * k + j - 30) % 6 = j by omega]
theorem obj_node {k : Nat} (hk : k < 120) : obj (30 + 6 * k) 4 := ⟨by omega, by omega, HT_node (j := 0) hk (by omega)⟩
theorem HT_prog {p : Nat} (hp : p < 3) : HT (773 + 162 * p) = .inl 5 ∧ HT (773 + 162 * p + 1) = .inr (4, 40) := by
  unfold HT
  rw [if_neg (by omega), if_neg (by omega), if_neg (by omega), if_pos (by omega), if_pos (by omega), if_neg (by omega), if_neg (by omega), if_neg (by omega), if_pos (by omega), if_neg (by omega), if_pos (by omega)]
  exact ⟨rfl, rfl⟩
theorem HT_clause {p i j : Nat} (hp : p < 3) (hi : i < 40) (hj : j < 4) : HT (773 + 162 * p + 2 + 4 * i + j) = hLC.getD j (.inl 99) := by
  unfold HT
  have e : (773 + 162 * p + 2 + 4 * i + j - 773) % 162 = 2 + 4 * i + j := by
    rw [show 773 + 162 * p + 2 + 4 * i + j - 773 = (2 + 4 * i + j) + 162 * p by omega, Nat.add_mul_mod_self_left, Nat.mod_eq_of_lt (by omega)]
  rw [e, if_neg (by omega), if_neg (by omega), if_neg (by omega), if_pos (by omega), if_neg (by omega), if_neg (by omega), show (2 + 4 * i + j - 2) % 4 = j by omega]
/-- an expression's object, with room for n cells; a clause's; a node's; a program's -/
def isE (e n : Nat) : Prop := obj e 2 ∧ arr (e + 1) 0 n ∧ n ≤ 20480
def isC (c : Nat) : Prop := obj c 1 ∧ arr (c + 1) 0 11 ∧ isE (c + 2) 100
def isP (p : Nat) : Prop := obj p 5 ∧ arr (p + 1) 4 40 ∧ ∀ i, i < 40 → isC (p + 2 + 4 * i)
def isN (a : Nat) : Prop := obj a 4 ∧ isE (a + 1) 40 ∧ arr (a + 3) 0 40 ∧ isE (a + 4) 100
def isB (b : Nat) : Prop := obj b 0 ∧ (arr (b + 1) 0 200 ∧ arr (b + 2) 0 200) ∧ isE (b + 3) 800
theorem isN_at {k : Nat} (hk : k < 120) : isN (30 + 6 * k) :=
  ⟨obj_node hk, ⟨⟨by omega, by omega, HT_node (j := 1) hk (by omega)⟩, ⟨by omega, by omega, HT_node (j := 2) hk (by omega)⟩, by omega⟩, ⟨by omega, by omega, HT_node (j := 3) hk (by omega)⟩, ⟨by omega, by omega, HT_node (j := 4) hk (by omega)⟩, ⟨by omega, by omega, HT_node (j := 5) hk (by omega)⟩, by omega⟩
theorem isC_at {p i : Nat} (hp : p < 3) (hi : i < 40) : isC (773 + 162 * p + 2 + 4 * i) :=
  ⟨⟨by omega, by omega, HT_clause (j := 0) hp hi (by omega)⟩, ⟨by omega, by omega, HT_clause (j := 1) hp hi (by omega)⟩, ⟨by omega, by omega, HT_clause (j := 2) hp hi (by omega)⟩, ⟨by omega, by omega, HT_clause (j := 3) hp hi (by omega)⟩, by omega⟩
theorem isP_at {p : Nat} (hp : p < 3) : isP (773 + 162 * p) := ⟨⟨by omega, by omega, (HT_prog hp).1⟩, ⟨by omega, by omega, (HT_prog hp).2⟩, fun i hi => isC_at hp hi⟩
theorem isE_of (e n : Nat) (h : (Nat.ble 2 e && (Nat.blt (e + 1) 1329 && (decide (HT e = .inl 2) && (decide (HT (e + 1) = .inr (0, n)) && Nat.ble n 20480)))) = true) : isE e n := by
  simp only [Bool.and_eq_true, decide_eq_true_eq] at h
  have h1 := Nat.le_of_ble_eq_true h.1
  have h2 : e + 1 < 1329 := Nat.le_of_ble_eq_true h.2.1
  exact ⟨⟨h1, by omega, h.2.2.1⟩, ⟨by omega, h2, h.2.2.2.1⟩, Nat.le_of_ble_eq_true h.2.2.2.2⟩
theorem isB_at0 : isB 1259 := ⟨obj_of _ _ (by decide), ⟨arr_of _ _ _ (by decide), arr_of _ _ _ (by decide)⟩, isE_of _ _ (by decide)⟩
theorem isB_at1 : isB 1264 := ⟨obj_of _ _ (by decide), ⟨arr_of _ _ _ (by decide), arr_of _ _ _ (by decide)⟩, isE_of _ _ (by decide)⟩
/-- references that no call changes -/
def irS : List (Nat × Nat × Nat) := [(3, 0, 4), (3, 1, 5), (3, 2, 6), (3, 3, 7), (9, 0, 10), (9, 1, 11), (12, 0, 13), (12, 1, 14), (12, 2, 15), (12, 3, 16), (12, 4, 17), (12, 5, 18), (12, 6, 19), (12, 7, 20), (21, 0, 22), (27, 0, 21), (27, 1, 12), (27, 2, 28), (27, 3, 29), (27, 4, 750), (27, 5, 752), (754, 0, 755), (754, 1, 757), (2, 0, 3), (2, 1, 9), (2, 2, 12), (2, 3, 21), (2, 4, 27), (2, 5, 754), (2, 6, 758), (2, 7, 767), (2, 8, 769), (2, 9, 771), (758, 0, 759), (758, 1, 761), (758, 2, 763), (758, 3, 765)]
def irM : List (Nat × Nat) := [(0, 1270), (4, 1271), (5, 1272), (6, 1273), (11, 1274), (12, 1275), (13, 1276), (14, 1277), (15, 1278), (16, 1279), (17, 1280), (18, 1281), (22, 1282), (23, 1283), (24, 1284), (25, 1285), (26, 1286), (27, 1287), (29, 1288), (30, 1289), (31, 1290), (32, 1291), (33, 1292), (34, 1293), (37, 1294), (38, 1295), (39, 1296), (42, 1297), (44, 1298), (45, 1299), (50, 1300), (51, 1301), (53, 1302), (54, 1303), (55, 1304), (57, 1305), (58, 1306), (60, 1307), (62, 1308), (63, 1309), (64, 1310), (65, 1311), (66, 1312), (67, 1313), (68, 1314), (69, 1315), (70, 1316), (71, 1317), (78, 1318), (79, 1319), (80, 1320), (81, 1321), (82, 1322), (83, 1323), (86, 1324), (87, 1325), (88, 1326), (89, 1327), (92, 1328)]
def Good (M : Mem) : Prop := ((mN M = 1329 ∧ mS M = 347758) ∧ ∀ a, 2 ≤ a → a < 1329 → mH M a = HT a) ∧ ((∀ a, obj a 2 → mR M a 0 = a + 1) ∧ (∀ a, obj a 1 → mR M a 0 = a + 1 ∧ mR M a 1 = a + 2) ∧ (∀ a, obj a 4 → mR M a 0 = a + 1 ∧ mR M a 1 = a + 3 ∧ mR M a 2 = a + 4) ∧ (∀ a, obj a 5 → mR M a 0 = a + 1 ∧ ∀ i, i < 40 → mR M (a + 1) i = a + 2 + 4 * i) ∧ (∀ a, obj a 0 → mR M a 0 = a + 1 ∧ mR M a 1 = a + 2 ∧ mR M a 2 = a + 3)) ∧ (∀ q ∈ irS, mR M q.1 q.2.1 = q.2.2) ∧ (∀ q ∈ irM, mR M 1269 q.1 = q.2) ∧ ∀ i, i < 120 → mR M 28 i = 30 + 6 * i
section GOOD
variable {M M' : Mem}
theorem Good.tgO (h : Good M) {a c : Nat} (o : obj a c) : gO M a c = true := by
  unfold gO
  rw [Nat.ble_eq_true_of_le o.1, show Nat.blt a (mN M) = true from Nat.ble_eq_true_of_le (by rw [h.1.1.1]; exact o.2.1), h.1.2 a o.1 o.2.1, o.2.2, decide_eq_true rfl]
  rfl
theorem Good.kd (h : Good M) {a kd n : Nat} (o : arr a kd n) : akd M a = kd ∧ alen M a = n := by
  unfold akd alen
  rw [h.1.2 a o.1 o.2.1, o.2.2]
  exact ⟨rfl, rfl⟩
theorem Good.len (h : Good M) {a kd n : Nat} (o : arr a kd n) : alen M a = n := (h.kd o).2
theorem Good.tgS (h : Good M) {a kd n : Nat} {i : Int} (o : arr a kd n) (h0 : 0 ≤ i) (h1 : i < (n : Int)) : gS M a kd i = true := by
  unfold gS
  rw [Nat.ble_eq_true_of_le o.1, show Nat.blt a (mN M) = true from Nat.ble_eq_true_of_le (by rw [h.1.1.1]; exact o.2.1), (h.kd o).1, (h.kd o).2, nbeq _, decide_eq_true ⟨h0, h1⟩]
  rfl
theorem Good.tgL (h : Good M) {m a kd n : Nat} (o : arr a kd n) (hk : kd ≤ 5) : gL m M a = true := by
  unfold gL
  rw [Nat.ble_eq_true_of_le o.1, show Nat.blt a (mN M) = true from Nat.ble_eq_true_of_le (by rw [h.1.1.1]; exact o.2.1), (h.kd o).1, Nat.ble_eq_true_of_le hk]
  rfl
theorem Good.tgC (h : Good M) {s d n1 n2 : Nat} {sp dp n : Int} (o : arr s 0 n1) (q : arr d 0 n2) (h0 : 0 ≤ sp) (h1 : 0 ≤ dp) (h2 : 0 ≤ n) (h3 : sp + n ≤ (n1 : Int)) (h4 : dp + n ≤ (n2 : Int)) : gC M s sp d dp n = true := by
  unfold gC
  rw [Nat.ble_eq_true_of_le o.1, show Nat.blt s (mN M) = true from Nat.ble_eq_true_of_le (by rw [h.1.1.1]; exact o.2.1), (h.kd o).1, (h.kd o).2, Nat.ble_eq_true_of_le q.1, show Nat.blt d (mN M) = true from Nat.ble_eq_true_of_le (by rw [h.1.1.1]; exact q.2.1), (h.kd q).1, (h.kd q).2, nbeq _, decide_eq_true ⟨h0, h1, h2, h3, h4⟩]
  rfl
theorem Good.r3_0 (h : Good M) : mR M 3 0 = 4 := h.2.2.1 (3, 0, 4) (by decide)
theorem Good.r3_1 (h : Good M) : mR M 3 1 = 5 := h.2.2.1 (3, 1, 5) (by decide)
theorem Good.r3_2 (h : Good M) : mR M 3 2 = 6 := h.2.2.1 (3, 2, 6) (by decide)
theorem Good.r3_3 (h : Good M) : mR M 3 3 = 7 := h.2.2.1 (3, 3, 7) (by decide)
theorem Good.r9_0 (h : Good M) : mR M 9 0 = 10 := h.2.2.1 (9, 0, 10) (by decide)
theorem Good.r9_1 (h : Good M) : mR M 9 1 = 11 := h.2.2.1 (9, 1, 11) (by decide)
theorem Good.r12_0 (h : Good M) : mR M 12 0 = 13 := h.2.2.1 (12, 0, 13) (by decide)
theorem Good.r12_1 (h : Good M) : mR M 12 1 = 14 := h.2.2.1 (12, 1, 14) (by decide)
theorem Good.r12_2 (h : Good M) : mR M 12 2 = 15 := h.2.2.1 (12, 2, 15) (by decide)
theorem Good.r12_3 (h : Good M) : mR M 12 3 = 16 := h.2.2.1 (12, 3, 16) (by decide)
theorem Good.r12_4 (h : Good M) : mR M 12 4 = 17 := h.2.2.1 (12, 4, 17) (by decide)
theorem Good.r12_5 (h : Good M) : mR M 12 5 = 18 := h.2.2.1 (12, 5, 18) (by decide)
theorem Good.r12_6 (h : Good M) : mR M 12 6 = 19 := h.2.2.1 (12, 6, 19) (by decide)
theorem Good.r12_7 (h : Good M) : mR M 12 7 = 20 := h.2.2.1 (12, 7, 20) (by decide)
theorem Good.r21_0 (h : Good M) : mR M 21 0 = 22 := h.2.2.1 (21, 0, 22) (by decide)
theorem Good.r27_0 (h : Good M) : mR M 27 0 = 21 := h.2.2.1 (27, 0, 21) (by decide)
theorem Good.r27_1 (h : Good M) : mR M 27 1 = 12 := h.2.2.1 (27, 1, 12) (by decide)
theorem Good.r27_2 (h : Good M) : mR M 27 2 = 28 := h.2.2.1 (27, 2, 28) (by decide)
theorem Good.r27_3 (h : Good M) : mR M 27 3 = 29 := h.2.2.1 (27, 3, 29) (by decide)
theorem Good.r27_4 (h : Good M) : mR M 27 4 = 750 := h.2.2.1 (27, 4, 750) (by decide)
theorem Good.r27_5 (h : Good M) : mR M 27 5 = 752 := h.2.2.1 (27, 5, 752) (by decide)
theorem Good.r754_0 (h : Good M) : mR M 754 0 = 755 := h.2.2.1 (754, 0, 755) (by decide)
theorem Good.r754_1 (h : Good M) : mR M 754 1 = 757 := h.2.2.1 (754, 1, 757) (by decide)
theorem Good.r2_0 (h : Good M) : mR M 2 0 = 3 := h.2.2.1 (2, 0, 3) (by decide)
theorem Good.r2_1 (h : Good M) : mR M 2 1 = 9 := h.2.2.1 (2, 1, 9) (by decide)
theorem Good.r2_2 (h : Good M) : mR M 2 2 = 12 := h.2.2.1 (2, 2, 12) (by decide)
theorem Good.r2_3 (h : Good M) : mR M 2 3 = 21 := h.2.2.1 (2, 3, 21) (by decide)
theorem Good.r2_4 (h : Good M) : mR M 2 4 = 27 := h.2.2.1 (2, 4, 27) (by decide)
theorem Good.r2_5 (h : Good M) : mR M 2 5 = 754 := h.2.2.1 (2, 5, 754) (by decide)
theorem Good.r2_6 (h : Good M) : mR M 2 6 = 758 := h.2.2.1 (2, 6, 758) (by decide)
theorem Good.r2_7 (h : Good M) : mR M 2 7 = 767 := h.2.2.1 (2, 7, 767) (by decide)
theorem Good.r2_8 (h : Good M) : mR M 2 8 = 769 := h.2.2.1 (2, 8, 769) (by decide)
theorem Good.r2_9 (h : Good M) : mR M 2 9 = 771 := h.2.2.1 (2, 9, 771) (by decide)
theorem Good.r758_0 (h : Good M) : mR M 758 0 = 759 := h.2.2.1 (758, 0, 759) (by decide)
theorem Good.r758_1 (h : Good M) : mR M 758 1 = 761 := h.2.2.1 (758, 1, 761) (by decide)
theorem Good.r758_2 (h : Good M) : mR M 758 2 = 763 := h.2.2.1 (758, 2, 763) (by decide)
theorem Good.r758_3 (h : Good M) : mR M 758 3 = 765 := h.2.2.1 (758, 3, 765) (by decide)
theorem Good.m0 (h : Good M) : mR M 1269 0 = 1270 := h.2.2.2.1 (0, 1270) (by decide)
theorem Good.m4 (h : Good M) : mR M 1269 4 = 1271 := h.2.2.2.1 (4, 1271) (by decide)
theorem Good.m5 (h : Good M) : mR M 1269 5 = 1272 := h.2.2.2.1 (5, 1272) (by decide)
theorem Good.m6 (h : Good M) : mR M 1269 6 = 1273 := h.2.2.2.1 (6, 1273) (by decide)
theorem Good.m11 (h : Good M) : mR M 1269 11 = 1274 := h.2.2.2.1 (11, 1274) (by decide)
theorem Good.m12 (h : Good M) : mR M 1269 12 = 1275 := h.2.2.2.1 (12, 1275) (by decide)
theorem Good.m13 (h : Good M) : mR M 1269 13 = 1276 := h.2.2.2.1 (13, 1276) (by decide)
theorem Good.m14 (h : Good M) : mR M 1269 14 = 1277 := h.2.2.2.1 (14, 1277) (by decide)
theorem Good.m15 (h : Good M) : mR M 1269 15 = 1278 := h.2.2.2.1 (15, 1278) (by decide)
theorem Good.m16 (h : Good M) : mR M 1269 16 = 1279 := h.2.2.2.1 (16, 1279) (by decide)
theorem Good.m17 (h : Good M) : mR M 1269 17 = 1280 := h.2.2.2.1 (17, 1280) (by decide)
theorem Good.m18 (h : Good M) : mR M 1269 18 = 1281 := h.2.2.2.1 (18, 1281) (by decide)
theorem Good.m22 (h : Good M) : mR M 1269 22 = 1282 := h.2.2.2.1 (22, 1282) (by decide)
theorem Good.m23 (h : Good M) : mR M 1269 23 = 1283 := h.2.2.2.1 (23, 1283) (by decide)
theorem Good.m24 (h : Good M) : mR M 1269 24 = 1284 := h.2.2.2.1 (24, 1284) (by decide)
theorem Good.m25 (h : Good M) : mR M 1269 25 = 1285 := h.2.2.2.1 (25, 1285) (by decide)
theorem Good.m26 (h : Good M) : mR M 1269 26 = 1286 := h.2.2.2.1 (26, 1286) (by decide)
theorem Good.m27 (h : Good M) : mR M 1269 27 = 1287 := h.2.2.2.1 (27, 1287) (by decide)
theorem Good.m29 (h : Good M) : mR M 1269 29 = 1288 := h.2.2.2.1 (29, 1288) (by decide)
theorem Good.m30 (h : Good M) : mR M 1269 30 = 1289 := h.2.2.2.1 (30, 1289) (by decide)
theorem Good.m31 (h : Good M) : mR M 1269 31 = 1290 := h.2.2.2.1 (31, 1290) (by decide)
theorem Good.m32 (h : Good M) : mR M 1269 32 = 1291 := h.2.2.2.1 (32, 1291) (by decide)
theorem Good.m33 (h : Good M) : mR M 1269 33 = 1292 := h.2.2.2.1 (33, 1292) (by decide)
theorem Good.m34 (h : Good M) : mR M 1269 34 = 1293 := h.2.2.2.1 (34, 1293) (by decide)
theorem Good.m37 (h : Good M) : mR M 1269 37 = 1294 := h.2.2.2.1 (37, 1294) (by decide)
theorem Good.m38 (h : Good M) : mR M 1269 38 = 1295 := h.2.2.2.1 (38, 1295) (by decide)
theorem Good.m39 (h : Good M) : mR M 1269 39 = 1296 := h.2.2.2.1 (39, 1296) (by decide)
theorem Good.m42 (h : Good M) : mR M 1269 42 = 1297 := h.2.2.2.1 (42, 1297) (by decide)
theorem Good.m44 (h : Good M) : mR M 1269 44 = 1298 := h.2.2.2.1 (44, 1298) (by decide)
theorem Good.m45 (h : Good M) : mR M 1269 45 = 1299 := h.2.2.2.1 (45, 1299) (by decide)
theorem Good.m50 (h : Good M) : mR M 1269 50 = 1300 := h.2.2.2.1 (50, 1300) (by decide)
theorem Good.m51 (h : Good M) : mR M 1269 51 = 1301 := h.2.2.2.1 (51, 1301) (by decide)
theorem Good.m53 (h : Good M) : mR M 1269 53 = 1302 := h.2.2.2.1 (53, 1302) (by decide)
theorem Good.m54 (h : Good M) : mR M 1269 54 = 1303 := h.2.2.2.1 (54, 1303) (by decide)
theorem Good.m55 (h : Good M) : mR M 1269 55 = 1304 := h.2.2.2.1 (55, 1304) (by decide)
theorem Good.m57 (h : Good M) : mR M 1269 57 = 1305 := h.2.2.2.1 (57, 1305) (by decide)
theorem Good.m58 (h : Good M) : mR M 1269 58 = 1306 := h.2.2.2.1 (58, 1306) (by decide)
theorem Good.m60 (h : Good M) : mR M 1269 60 = 1307 := h.2.2.2.1 (60, 1307) (by decide)
theorem Good.m62 (h : Good M) : mR M 1269 62 = 1308 := h.2.2.2.1 (62, 1308) (by decide)
theorem Good.m63 (h : Good M) : mR M 1269 63 = 1309 := h.2.2.2.1 (63, 1309) (by decide)
theorem Good.m64 (h : Good M) : mR M 1269 64 = 1310 := h.2.2.2.1 (64, 1310) (by decide)
theorem Good.m65 (h : Good M) : mR M 1269 65 = 1311 := h.2.2.2.1 (65, 1311) (by decide)
theorem Good.m66 (h : Good M) : mR M 1269 66 = 1312 := h.2.2.2.1 (66, 1312) (by decide)
theorem Good.m67 (h : Good M) : mR M 1269 67 = 1313 := h.2.2.2.1 (67, 1313) (by decide)
theorem Good.m68 (h : Good M) : mR M 1269 68 = 1314 := h.2.2.2.1 (68, 1314) (by decide)
theorem Good.m69 (h : Good M) : mR M 1269 69 = 1315 := h.2.2.2.1 (69, 1315) (by decide)
theorem Good.m70 (h : Good M) : mR M 1269 70 = 1316 := h.2.2.2.1 (70, 1316) (by decide)
theorem Good.m71 (h : Good M) : mR M 1269 71 = 1317 := h.2.2.2.1 (71, 1317) (by decide)
theorem Good.m78 (h : Good M) : mR M 1269 78 = 1318 := h.2.2.2.1 (78, 1318) (by decide)
theorem Good.m79 (h : Good M) : mR M 1269 79 = 1319 := h.2.2.2.1 (79, 1319) (by decide)
theorem Good.m80 (h : Good M) : mR M 1269 80 = 1320 := h.2.2.2.1 (80, 1320) (by decide)
theorem Good.m81 (h : Good M) : mR M 1269 81 = 1321 := h.2.2.2.1 (81, 1321) (by decide)
theorem Good.m82 (h : Good M) : mR M 1269 82 = 1322 := h.2.2.2.1 (82, 1322) (by decide)
theorem Good.m83 (h : Good M) : mR M 1269 83 = 1323 := h.2.2.2.1 (83, 1323) (by decide)
theorem Good.m86 (h : Good M) : mR M 1269 86 = 1324 := h.2.2.2.1 (86, 1324) (by decide)
theorem Good.m87 (h : Good M) : mR M 1269 87 = 1325 := h.2.2.2.1 (87, 1325) (by decide)
theorem Good.m88 (h : Good M) : mR M 1269 88 = 1326 := h.2.2.2.1 (88, 1326) (by decide)
theorem Good.m89 (h : Good M) : mR M 1269 89 = 1327 := h.2.2.2.1 (89, 1327) (by decide)
theorem Good.m92 (h : Good M) : mR M 1269 92 = 1328 := h.2.2.2.1 (92, 1328) (by decide)
end GOOD
/-- ints and references stay outside S -/
def Fr (S : Nat → Prop) (M M' : Mem) : Prop := (M'.1 = M.1 ∧ M'.2.1 = M.2.1) ∧ ∀ a, ¬ S a → (∀ k, mI M' a k = mI M a k) ∧ ∀ k, mR M' a k = mR M a k
/-- ints stay outside S, references everywhere -/
def Fi (S : Nat → Prop) (M M' : Mem) : Prop := (M'.1 = M.1 ∧ M'.2.1 = M.2.1) ∧ (∀ a k, mR M' a k = mR M a k) ∧ ∀ a, ¬ S a → ∀ k, mI M' a k = mI M a k
section FRAMES
variable {M M1 M2 : Mem} {S T : Nat → Prop}
theorem Fi.refl : Fi S M M := ⟨⟨rfl, rfl⟩, fun _ _ => rfl, fun _ _ _ => rfl⟩
theorem Fr.refl : Fr S M M := ⟨⟨rfl, rfl⟩, fun _ _ => ⟨fun _ => rfl, fun _ => rfl⟩⟩
theorem Fi.trans (h : Fi S M M1) (k : Fi S M1 M2) : Fi S M M2 := ⟨⟨k.1.1.trans h.1.1, k.1.2.trans h.1.2⟩, fun a j => (k.2.1 a j).trans (h.2.1 a j), fun a hS j => (k.2.2 a hS j).trans (h.2.2 a hS j)⟩
theorem Fr.trans (h : Fr S M M1) (k : Fr S M1 M2) : Fr S M M2 := ⟨⟨k.1.1.trans h.1.1, k.1.2.trans h.1.2⟩, fun a hS => ⟨fun j => ((k.2 a hS).1 j).trans ((h.2 a hS).1 j), fun j => ((k.2 a hS).2 j).trans ((h.2 a hS).2 j)⟩⟩
theorem Fi.mono (h : Fi S M M1) (hs : ∀ a, S a → T a) : Fi T M M1 := ⟨h.1, h.2.1, fun a hT => h.2.2 a fun q => hT (hs a q)⟩
theorem Fr.mono (h : Fr S M M1) (hs : ∀ a, S a → T a) : Fr T M M1 := ⟨h.1, fun a hT => h.2 a fun q => hT (hs a q)⟩
theorem Fi.fr (h : Fi S M M1) : Fr S M M1 := ⟨h.1, fun a hS => ⟨h.2.2 a hS, h.2.1 a⟩⟩
theorem Fi.ofI {a k : Nat} {v : Int} (h : S a) : Fi S M (stI M a k v) := ⟨⟨rfl, rfl⟩, fun _ _ => rfl, fun b hb j => if_neg (fun (q : b = _ ∧ _) => hb (q.1 ▸ h))⟩
theorem Fr.ofR {a k v : Nat} (h : S a) : Fr S M (stR M a k v) := ⟨⟨rfl, rfl⟩, fun b hb => ⟨fun _ => rfl, fun j => if_neg (fun (q : b = _ ∧ _) => hb (q.1 ▸ h))⟩⟩
theorem Fi.ofC {s sp d dp n : Nat} (h : S d) : Fi S M (cpI M s sp d dp n) := ⟨⟨rfl, rfl⟩, fun _ _ => rfl, fun b hb j => if_neg (fun (q : b = _ ∧ _) => hb (q.1 ▸ h))⟩
theorem Good.fi (h : Good M) (f : Fi S M M1) : Good M1 := by
  obtain ⟨⟨⟨h1, h2⟩, h3⟩, ⟨h4, h5, h6, h7, h8⟩, h9, h10, h11⟩ := h
  have e : ∀ a k, mR M1 a k = mR M a k := f.2.1
  refine ⟨⟨⟨(congrArg Prod.fst f.1.1).trans h1, (congrArg Prod.snd f.1.1).trans h2⟩, fun a p q => (congrFun f.1.2 a).trans (h3 a p q)⟩, ⟨fun a o => (e _ _).trans (h4 a o), fun a o => ⟨(e _ _).trans (h5 a o).1, (e _ _).trans (h5 a o).2⟩, fun a o => ⟨(e _ _).trans (h6 a o).1, (e _ _).trans (h6 a o).2.1, (e _ _).trans (h6 a o).2.2⟩, fun a o => ⟨(e _ _).trans (h7 a o).1, fun i hi => (e _ _).trans ((h7 a o).2 i hi)⟩, fun a o => ⟨(e _ _).trans (h8 a o).1, (e _ _).trans (h8 a o).2.1, (e _ _).trans (h8 a o).2.2⟩⟩, fun q hq => (e _ _).trans (h9 q hq), fun q hq => (e _ _).trans (h10 q hq), fun i hi => (e _ _).trans (h11 i hi)⟩
theorem HT_5 : ∀ b, obj b 5 → ∃ p, p < 3 ∧ b = 773 + 162 * p := by
  intro b o
  have h : (List.range 1329).all (fun b => !decide (HT b = .inl 5) || (Nat.beq b 773 || (Nat.beq b 935 || Nat.beq b 1097))) = true := by decide +kernel
  have h2 := List.all_eq_true.mp h b (List.mem_range.mpr o.2.1)
  rw [decide_eq_true o.2.2] at h2
  simp only [Bool.not_true, Bool.false_or, Bool.or_eq_true] at h2
  rcases h2 with h2 | h2 | h2
  · exact ⟨0, by decide, Nat.eq_of_beq_eq_true h2⟩
  · exact ⟨1, by decide, Nat.eq_of_beq_eq_true h2⟩
  · exact ⟨2, by decide, Nat.eq_of_beq_eq_true h2⟩
/-- where a reference may change -/
def mtb (a k : Nat) : Prop := (a = 2 ∧ 10 ≤ k) ∨ (a = 21 ∧ 1 ≤ k) ∨ (a = 27 ∧ 6 ≤ k) ∨ a = 29 ∨ (obj a 4 ∧ 3 ≤ k)
theorem irS_mtb : ∀ q ∈ irS, (q.1 = 2 → q.2.1 < 10) ∧ (q.1 = 21 → q.2.1 < 1) ∧ (q.1 = 27 → q.2.1 < 6) ∧ q.1 ≠ 29 ∧ HT q.1 ≠ .inl 4 := by decide
theorem Good.ofR (h : Good M) {a k v : Nat} (hm : mtb a k) : Good (stR M a k v) := by
  obtain ⟨⟨⟨h1, h2⟩, h3⟩, ⟨h4, h5, h6, h7, h8⟩, h9, h10, h11⟩ := h
  have key : ∀ b j, ¬ (b = a ∧ j = k) → mR (stR M a k v) b j = mR M b j := fun b j q => if_neg q
  have ob : ∀ b c, obj b c → c ≠ 4 → ¬ obj b 4 := fun b c o hc o4 => hc (by have h := o.2.2.symm.trans o4.2.2; cases h; rfl)
  have n2 : HT 2 = .inl 11 := by decide
  have n21 : HT 21 = .inl 8 := by decide
  have n27 : HT 27 = .inl 9 := by decide
  have n29 : HT 29 = .inr (5, 120) := by decide
  have plain : ∀ b c, obj b c → c ≠ 4 → c ≠ 11 → c ≠ 8 → c ≠ 9 → ∀ j, ¬ (b = a ∧ j = k) := by
    intro b c o c4 c11 c8 c9 j q
    obtain ⟨rfl, rfl⟩ := q
    have ht := o.2.2
    rcases hm with ⟨rfl, -⟩ | ⟨rfl, -⟩ | ⟨rfl, -⟩ | rfl | ⟨o4, -⟩
    · rw [n2] at ht; cases ht; exact c11 rfl
    · rw [n21] at ht; cases ht; exact c8 rfl
    · rw [n27] at ht; cases ht; exact c9 rfl
    · rw [n29] at ht; cases ht
    · exact ob b c o c4 o4
  have node : ∀ b, obj b 4 → ∀ j, j < 3 → ¬ (b = a ∧ j = k) := by
    intro b o j hj q
    obtain ⟨rfl, rfl⟩ := q
    have ht := o.2.2
    rcases hm with ⟨rfl, -⟩ | ⟨rfl, -⟩ | ⟨rfl, -⟩ | rfl | ⟨-, hk⟩
    · rw [n2] at ht; cases ht
    · rw [n21] at ht; cases ht
    · rw [n27] at ht; cases ht
    · rw [n29] at ht; cases ht
    · omega
  have pa : ∀ b, obj b 5 → ∀ i, i < 40 → ∀ j, ¬ (b + 1 = a ∧ j = k) := by
    intro b o i hi j q
    obtain ⟨rfl, rfl⟩ := q
    have ht := o.2.2
    rcases hm with ⟨e, -⟩ | ⟨e, -⟩ | ⟨e, -⟩ | e | ⟨o4, -⟩
    · have := o.1; omega
    · rw [show b = 20 by omega] at ht; exact absurd ht (by decide)
    · rw [show b = 26 by omega] at ht; exact absurd ht (by decide)
    · rw [show b = 28 by omega] at ht; exact absurd ht (by decide)
    · have h5 := HT_5 b o
      obtain ⟨p, hp, rfl⟩ := h5
      have h7 := o4.2.2
      rw [(HT_prog hp).2] at h7
      cases h7
  refine ⟨⟨⟨h1, h2⟩, h3⟩, ⟨fun b o => (key _ _ (plain b 2 o (by decide) (by decide) (by decide) (by decide) _)).trans (h4 b o), fun b o => ⟨(key _ _ (plain b 1 o (by decide) (by decide) (by decide) (by decide) _)).trans (h5 b o).1, (key _ _ (plain b 1 o (by decide) (by decide) (by decide) (by decide) _)).trans (h5 b o).2⟩, fun b o => ⟨(key _ _ (node b o _ (by decide))).trans (h6 b o).1, (key _ _ (node b o _ (by decide))).trans (h6 b o).2.1, (key _ _ (node b o _ (by decide))).trans (h6 b o).2.2⟩, fun b o => ⟨(key _ _ (plain b 5 o (by decide) (by decide) (by decide) (by decide) _)).trans (h7 b o).1, fun i hi => (key _ _ (pa b o i hi _)).trans ((h7 b o).2 i hi)⟩, fun b o => ⟨(key _ _ (plain b 0 o (by decide) (by decide) (by decide) (by decide) _)).trans (h8 b o).1, (key _ _ (plain b 0 o (by decide) (by decide) (by decide) (by decide) _)).trans (h8 b o).2.1, (key _ _ (plain b 0 o (by decide) (by decide) (by decide) (by decide) _)).trans (h8 b o).2.2⟩⟩, fun q hq => (key _ _ ?_).trans (h9 q hq), fun q hq => (key _ _ ?_).trans (h10 q hq), fun i hi => (key _ _ ?_).trans (h11 i hi)⟩
  · intro e
    obtain ⟨m1, m2, m3, m4, m5⟩ := irS_mtb q hq
    obtain ⟨e1, e2⟩ := e
    rcases hm with ⟨rfl, hk⟩ | ⟨rfl, hk⟩ | ⟨rfl, hk⟩ | rfl | ⟨o4, -⟩
    · have := m1 e1; omega
    · have := m2 e1; omega
    · have := m3 e1; omega
    · exact m4 e1
    · rw [e1] at m5; exact m5 o4.2.2
  · intro e
    have h12 : HT 1269 = .inl 12 := by decide
    rcases hm with ⟨rfl, hk⟩ | ⟨rfl, hk⟩ | ⟨rfl, hk⟩ | rfl | ⟨o4, -⟩
    · omega
    · omega
    · omega
    · omega
    · have h7 := o4.2.2
      rw [← e.1, h12] at h7
      cases h7
  · intro e
    have h12 : HT 28 = .inr (5, 120) := by decide
    rcases hm with ⟨rfl, hk⟩ | ⟨rfl, hk⟩ | ⟨rfl, hk⟩ | rfl | ⟨o4, -⟩
    · omega
    · omega
    · omega
    · omega
    · have h7 := o4.2.2
      rw [← e.1, h12] at h7
      cases h7
end FRAMES
