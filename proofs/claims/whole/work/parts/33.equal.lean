/-! what is the same in the class and in the model: bits, planes, changes -/
theorem nx_an (a b : Nat) : Int32.ofNat a &&& Int32.ofNat b = Int32.ofNat (a &&& b) := by
  apply Int32.toBitVec_inj.mp
  show BitVec.ofNat 32 a &&& BitVec.ofNat 32 b = BitVec.ofNat 32 (a &&& b)
  rw [BitVec.ofNat_and]
theorem andN {a b : Nat} (h : a &&& b < 2147483648) : andI (a : Int) (b : Int) = ((a &&& b : Nat) : Int) := by
  unfold andI
  rw [← iI_nat, ← iI_nat, nx_an, iI_nat, iI_toInt (by omega)]
theorem shc : ∀ k : Fin 32, (((iI ((k.val : Nat) : Int)) &&& 31).toBitVec.smod 32).toNat = k.val ∧ ((((iI ((k.val : Nat) : Int))).toUInt32 &&& Int32.toUInt32 31).toBitVec % 32).toNat = k.val := by decide +kernel
theorem shrN {a k : Nat} (ha : a < 2147483648) (hk : k < 32) : shrI (a : Int) (k : Int) = ((a / 2 ^ k : Nat) : Int) := by
  have hd : a / 2 ^ k ≤ a := Nat.div_le_self _ _
  unfold shrI
  rw [← iI_nat a]
  rw [show Int32.ofNat a >>> (iI (k : Int) &&& 31) = Int32.ofNat (a / 2 ^ k) from pk_shrN ha _ k (shc ⟨k, hk⟩).1, iI_nat]
  generalize a / 2 ^ k = z at hd ⊢
  rw [iI_toInt (by omega)]
theorem ushN {a k : Nat} (ha : a < 2147483648) (hk : k < 32) : ushI (a : Int) (k : Int) = ((a / 2 ^ k : Nat) : Int) := by
  have hd : a / 2 ^ k ≤ a := Nat.div_le_self _ _
  unfold ushI
  rw [← iI_nat a]
  rw [show ((Int32.ofNat a).toUInt32 >>> ((iI (k : Int)).toUInt32 &&& Int32.toUInt32 31)).toInt32 = Int32.ofNat (a / 2 ^ k) from pk_ushrN (Nat.lt_trans ha (by decide)) _ k (shc ⟨k, hk⟩).2, iI_nat]
  generalize a / 2 ^ k = z at hd ⊢
  rw [iI_toInt (by omega)]
theorem and_split {a m : Nat} (a2 m2 : Nat) (ha : a < 256) (hm : m < 256) : (256 * a2 + a) &&& (256 * m2 + m) = 256 * (a2 &&& m2) + (a &&& m) := by
  apply Nat.eq_of_testBit_eq
  intro i
  have hl : a &&& m < 2 ^ 8 := Nat.and_lt_two_pow _ hm
  rw [Nat.testBit_and, show 256 = 2 ^ 8 from rfl, Nat.testBit_two_pow_mul_add _ (show a < 2 ^ 8 from ha), Nat.testBit_two_pow_mul_add _ (show m < 2 ^ 8 from hm), Nat.testBit_two_pow_mul_add _ hl]
  split
  · rw [Nat.testBit_and]
  · rw [Nat.testBit_and]
def by4 (d c b a : Nat) : Nat := 256 * (256 * (256 * d + c) + b) + a
theorem and4 {d c b a m : Nat} (hd : d < 256) (hc : c < 256) (hb : b < 256) (ha : a < 256) (hm : m < 256) : by4 d c b a &&& by4 m m m m = by4 (d &&& m) (c &&& m) (b &&& m) (a &&& m) := by
  unfold by4
  rw [and_split _ _ ha hm, and_split _ _ hb hm, and_split _ _ hc hm]
def T1 (b : Nat) : Nat := b - ((b / 2) &&& 85)
def T2 (b : Nat) : Nat := (T1 b &&& 51) + ((T1 b / 4) &&& 51)
def T3 (b : Nat) : Nat := (T2 b + T2 b / 16) % 16
def pc8 (b : Nat) : Nat := b % 2 + b / 2 % 2 + b / 4 % 2 + b / 8 % 2 + b / 16 % 2 + b / 32 % 2 + b / 64 % 2 + b / 128 % 2
theorem tb_bits : ∀ b : Fin 256, (∀ c : Fin 2, (b.val / 2 + 128 * c.val) &&& 85 = (b.val / 2) &&& 85) ∧ ((b.val / 2) &&& 85) ≤ b.val ∧ T1 b.val ≤ b.val ∧ (∀ c : Fin 4, (T1 b.val / 4 + 64 * c.val) &&& 51 = (T1 b.val / 4) &&& 51) ∧ (T2 b.val ≤ 68 ∧ T2 b.val % 16 ≤ 4) ∧ (T1 b.val &&& 51) ≤ 51 ∧ ((T1 b.val / 4) &&& 51) ≤ 51 ∧ (∀ c : Fin 16, (T2 b.val + (T2 b.val / 16 + 16 * c.val)) &&& 15 = T3 b.val) ∧ T3 b.val = pc8 b.val ∧ T3 b.val ≤ 8 := by decide +kernel
theorem T1_b {b : Nat} (h : b < 256) : (∀ c, c < 2 → (b / 2 + 128 * c) &&& 85 = (b / 2) &&& 85) ∧ ((b / 2) &&& 85) ≤ b ∧ T1 b ≤ b ∧ (∀ c, c < 4 → (T1 b / 4 + 64 * c) &&& 51 = (T1 b / 4) &&& 51) ∧ (T2 b ≤ 68 ∧ T2 b % 16 ≤ 4) ∧ (T1 b &&& 51) ≤ 51 ∧ ((T1 b / 4) &&& 51) ≤ 51 ∧ (∀ c, c < 16 → (T2 b + (T2 b / 16 + 16 * c)) &&& 15 = T3 b) ∧ T3 b = pc8 b ∧ T3 b ≤ 8 := by
  obtain ⟨h1, h2, h3, h4, h5, h6, h7, h8, h9⟩ := tb_bits ⟨b, h⟩
  exact ⟨fun c hc => h1 ⟨c, hc⟩, h2, h3, fun c hc => h4 ⟨c, hc⟩, h5, h6, h7, fun c hc => h8 ⟨c, hc⟩, h9⟩
theorem bc1_N {d c b a : Nat} (hd : d < 128) (hc : c < 256) (hb : b < 256) (ha : a < 256) : bc1 ((by4 d c b a : Nat) : Int) = ((by4 (T1 d) (T1 c) (T1 b) (T1 a) : Nat) : Int) := by
  obtain ⟨d1, d2, d3, -⟩ := T1_b (show d < 256 by omega)
  obtain ⟨c1, c2, c3, -⟩ := T1_b hc
  obtain ⟨b1, b2, b3, -⟩ := T1_b hb
  obtain ⟨a1, a2, a3, -⟩ := T1_b ha
  have hx : by4 d c b a < 2147483648 := by unfold by4; omega
  have hs : by4 d c b a / 2 ^ 1 = by4 (d / 2 + 128 * 0) (c / 2 + 128 * (d % 2)) (b / 2 + 128 * (c % 2)) (a / 2 + 128 * (b % 2)) := by unfold by4; omega
  have hm : by4 d c b a / 2 ^ 1 &&& 1431655765 = by4 ((d / 2) &&& 85) ((c / 2) &&& 85) ((b / 2) &&& 85) ((a / 2) &&& 85) := by
    rw [hs, show (1431655765 : Nat) = by4 85 85 85 85 from rfl, and4 (by omega) (by omega) (by omega) (by omega) (by omega), d1 _ (by omega), c1 _ (by omega), b1 _ (by omega), a1 _ (by omega)]
  unfold bc1
  rw [show (1 : Int) = ((1 : Nat) : Int) from rfl, ushN hx (by omega), show (1431655765 : Int) = ((1431655765 : Nat) : Int) from rfl, andN (by rw [hm]; unfold by4; omega), hm]
  unfold by4 T1
  omega
theorem bc2_N {d c b a : Nat} (hd : d < 128) (hc : c < 256) (hb : b < 256) (ha : a < 256) : bc2 ((by4 (T1 d) (T1 c) (T1 b) (T1 a) : Nat) : Int) = ((by4 (T2 d) (T2 c) (T2 b) (T2 a) : Nat) : Int) := by
  obtain ⟨-, -, d3, d4, d5, d6, d7, -⟩ := T1_b (show d < 256 by omega)
  obtain ⟨-, -, c3, c4, c5, c6, c7, -⟩ := T1_b hc
  obtain ⟨-, -, b3, b4, b5, b6, b7, -⟩ := T1_b hb
  obtain ⟨-, -, a3, a4, a5, a6, a7, -⟩ := T1_b ha
  have hx : by4 (T1 d) (T1 c) (T1 b) (T1 a) < 2147483648 := by unfold by4; omega
  have hs : by4 (T1 d) (T1 c) (T1 b) (T1 a) / 2 ^ 2 = by4 (T1 d / 4 + 64 * 0) (T1 c / 4 + 64 * (T1 d % 4)) (T1 b / 4 + 64 * (T1 c % 4)) (T1 a / 4 + 64 * (T1 b % 4)) := by unfold by4; omega
  have hm1 : by4 (T1 d) (T1 c) (T1 b) (T1 a) &&& 858993459 = by4 (T1 d &&& 51) (T1 c &&& 51) (T1 b &&& 51) (T1 a &&& 51) := by
    rw [show (858993459 : Nat) = by4 51 51 51 51 from rfl, and4 (by omega) (by omega) (by omega) (by omega) (by omega)]
  have hm : by4 (T1 d) (T1 c) (T1 b) (T1 a) / 2 ^ 2 &&& 858993459 = by4 ((T1 d / 4) &&& 51) ((T1 c / 4) &&& 51) ((T1 b / 4) &&& 51) ((T1 a / 4) &&& 51) := by
    rw [hs, show (858993459 : Nat) = by4 51 51 51 51 from rfl, and4 (by omega) (by omega) (by omega) (by omega) (by omega), d4 _ (by omega), c4 _ (by omega), b4 _ (by omega), a4 _ (by omega)]
  unfold bc2
  rw [show (2 : Int) = ((2 : Nat) : Int) from rfl, ushN hx (by omega), show (858993459 : Int) = ((858993459 : Nat) : Int) from rfl, andN (by rw [hm1]; unfold by4; omega), hm1, andN (by rw [hm]; unfold by4; omega), hm]
  unfold by4 T2
  omega
theorem bc3_N {d c b a : Nat} (hd : d < 128) (hc : c < 256) (hb : b < 256) (ha : a < 256) : bc3 ((by4 (T2 d) (T2 c) (T2 b) (T2 a) : Nat) : Int) = ((by4 (pc8 d) (pc8 c) (pc8 b) (pc8 a) : Nat) : Int) := by
  obtain ⟨-, -, -, -, d5, -, -, d8, d9, d10⟩ := T1_b (show d < 256 by omega)
  obtain ⟨-, -, -, -, c5, -, -, c8, c9, c10⟩ := T1_b hc
  obtain ⟨-, -, -, -, b5, -, -, b8, b9, b10⟩ := T1_b hb
  obtain ⟨-, -, -, -, a5, -, -, a8, a9, a10⟩ := T1_b ha
  have hx : by4 (T2 d) (T2 c) (T2 b) (T2 a) < 2147483648 := by unfold by4; omega
  have hs : by4 (T2 d) (T2 c) (T2 b) (T2 a) + by4 (T2 d) (T2 c) (T2 b) (T2 a) / 2 ^ 4 = by4 (T2 d + (T2 d / 16 + 16 * 0)) (T2 c + (T2 c / 16 + 16 * (T2 d % 16))) (T2 b + (T2 b / 16 + 16 * (T2 c % 16))) (T2 a + (T2 a / 16 + 16 * (T2 b % 16))) := by unfold by4; omega
  have hm : (by4 (T2 d) (T2 c) (T2 b) (T2 a) + by4 (T2 d) (T2 c) (T2 b) (T2 a) / 2 ^ 4) &&& 252645135 = by4 (T3 d) (T3 c) (T3 b) (T3 a) := by
    rw [hs, show (252645135 : Nat) = by4 15 15 15 15 from rfl, and4 (by omega) (by omega) (by omega) (by omega) (by omega), d8 _ (by omega), c8 _ (by omega), b8 _ (by omega), a8 _ (by omega)]
  unfold bc3
  rw [show (4 : Int) = ((4 : Nat) : Int) from rfl, ushN hx (by omega), ← Int.natCast_add, show (252645135 : Int) = ((252645135 : Nat) : Int) from rfl, andN (by rw [hm]; unfold by4; omega), hm, d9, c9, b9, a9]
theorem bcI_N {d c b a : Nat} (hd : d < 128) (hc : c < 256) (hb : b < 256) (ha : a < 256) : bcI ((by4 d c b a : Nat) : Int) = ((pc8 d + pc8 c + pc8 b + pc8 a : Nat) : Int) := by
  obtain ⟨-, -, -, -, -, -, -, -, d9, d10⟩ := T1_b (show d < 256 by omega)
  obtain ⟨-, -, -, -, -, -, -, -, c9, c10⟩ := T1_b hc
  obtain ⟨-, -, -, -, -, -, -, -, b9, b10⟩ := T1_b hb
  obtain ⟨-, -, -, -, -, -, -, -, a9, a10⟩ := T1_b ha
  rw [d9] at d10
  rw [c9] at c10
  rw [b9] at b10
  rw [a9] at a10
  unfold bcI
  rw [bc1_N hd hc hb ha, bc2_N hd hc hb ha, bc3_N hd hc hb ha]
  generalize pc8 d = D at *
  generalize pc8 c = C at *
  generalize pc8 b = B at *
  generalize pc8 a = A at *
  have h4 : bc4 ((by4 D C B A : Nat) : Int) = ((by4 D (C + D) (B + C) (A + B) : Nat) : Int) := by
    unfold bc4
    rw [show (8 : Int) = ((8 : Nat) : Int) from rfl, ushN (by unfold by4; omega) (by omega), ← Int.natCast_add]
    congr 1
    unfold by4
    omega
  have h5 : bc5 ((by4 D (C + D) (B + C) (A + B) : Nat) : Int) = ((by4 D (C + D) (B + C + D) (A + B + C + D) : Nat) : Int) := by
    unfold bc5
    rw [show (16 : Int) = ((16 : Nat) : Int) from rfl, ushN (by unfold by4; omega) (by omega), ← Int.natCast_add]
    congr 1
    unfold by4
    omega
  have h6 : by4 D (C + D) (B + C + D) (A + B + C + D) &&& 63 = D + C + B + A := by
    rw [show (63 : Nat) = 2 ^ 6 - 1 from rfl, Nat.and_two_pow_sub_one_eq_mod]
    unfold by4
    omega
  rw [h4, h5, show (63 : Int) = ((63 : Nat) : Int) from rfl, andN (by rw [h6]; omega), h6]
theorem bit_N {x i : Nat} (hx : x < 2147483648) (hi : i < 32) : andI (shrI (x : Int) (i : Int)) 1 = ((x / 2 ^ i % 2 : Nat) : Int) := by
  have e : x / 2 ^ i &&& 1 = x / 2 ^ i % 2 := by rw [show (1 : Nat) = 2 ^ 1 - 1 from rfl, Nat.and_two_pow_sub_one_eq_mod]
  rw [shrN hx hi, show (1 : Int) = ((1 : Nat) : Int) from rfl, andN (by rw [e]; omega), e]
def bcN (x : Nat) : Nat → Nat
  | 0 => 0
  | v + 1 => bcN x v + x / 2 ^ v % 2
theorem bcM_N {x : Nat} (hx : x < 2147483648) (n : Nat) (hn : n ≤ 31) : bcM (x : Int) n = ((bcN x n : Nat) : Int) := by
  induction n with
  | zero => rfl
  | succ n ih => rw [bcM, bcN, ih (by omega), bit_N hx (by omega)]; omega
theorem bb0 (n : Nat) : n / 2 ^ 0 % 2 = n % 256 % 2 := by omega
theorem bb1 (n : Nat) : n / 2 ^ 1 % 2 = n % 256 / 2 % 2 := by omega
theorem bb2 (n : Nat) : n / 2 ^ 2 % 2 = n % 256 / 4 % 2 := by omega
theorem bb3 (n : Nat) : n / 2 ^ 3 % 2 = n % 256 / 8 % 2 := by omega
theorem bb4 (n : Nat) : n / 2 ^ 4 % 2 = n % 256 / 16 % 2 := by omega
theorem bb5 (n : Nat) : n / 2 ^ 5 % 2 = n % 256 / 32 % 2 := by omega
theorem bb6 (n : Nat) : n / 2 ^ 6 % 2 = n % 256 / 64 % 2 := by omega
theorem bb7 (n : Nat) : n / 2 ^ 7 % 2 = n % 256 / 128 % 2 := by omega
theorem bb8 (n : Nat) : n / 2 ^ 8 % 2 = n / 256 % 256 % 2 := by omega
theorem bb9 (n : Nat) : n / 2 ^ 9 % 2 = n / 256 % 256 / 2 % 2 := by omega
theorem bb10 (n : Nat) : n / 2 ^ 10 % 2 = n / 256 % 256 / 4 % 2 := by omega
theorem bb11 (n : Nat) : n / 2 ^ 11 % 2 = n / 256 % 256 / 8 % 2 := by omega
theorem bb12 (n : Nat) : n / 2 ^ 12 % 2 = n / 256 % 256 / 16 % 2 := by omega
theorem bb13 (n : Nat) : n / 2 ^ 13 % 2 = n / 256 % 256 / 32 % 2 := by omega
theorem bb14 (n : Nat) : n / 2 ^ 14 % 2 = n / 256 % 256 / 64 % 2 := by omega
theorem bb15 (n : Nat) : n / 2 ^ 15 % 2 = n / 256 % 256 / 128 % 2 := by omega
theorem bb16 (n : Nat) : n / 2 ^ 16 % 2 = n / 65536 % 256 % 2 := by omega
theorem bb17 (n : Nat) : n / 2 ^ 17 % 2 = n / 65536 % 256 / 2 % 2 := by omega
theorem bb18 (n : Nat) : n / 2 ^ 18 % 2 = n / 65536 % 256 / 4 % 2 := by omega
theorem bb19 (n : Nat) : n / 2 ^ 19 % 2 = n / 65536 % 256 / 8 % 2 := by omega
theorem bb20 (n : Nat) : n / 2 ^ 20 % 2 = n / 65536 % 256 / 16 % 2 := by omega
theorem bb21 (n : Nat) : n / 2 ^ 21 % 2 = n / 65536 % 256 / 32 % 2 := by omega
theorem bb22 (n : Nat) : n / 2 ^ 22 % 2 = n / 65536 % 256 / 64 % 2 := by omega
theorem bb23 (n : Nat) : n / 2 ^ 23 % 2 = n / 65536 % 256 / 128 % 2 := by omega
theorem bb24 (n : Nat) : n / 2 ^ 24 % 2 = n / 16777216 % 2 := by omega
theorem bb25 (n : Nat) : n / 2 ^ 25 % 2 = n / 16777216 / 2 % 2 := by omega
theorem bb26 (n : Nat) : n / 2 ^ 26 % 2 = n / 16777216 / 4 % 2 := by omega
theorem bb27 (n : Nat) : n / 2 ^ 27 % 2 = n / 16777216 / 8 % 2 := by omega
theorem bb28 (n : Nat) : n / 2 ^ 28 % 2 = n / 16777216 / 16 % 2 := by omega
theorem bb29 (n : Nat) : n / 2 ^ 29 % 2 = n / 16777216 / 32 % 2 := by omega
theorem bb30 (n : Nat) : n / 2 ^ 30 % 2 = n / 16777216 / 64 % 2 := by omega
theorem bc_eq {x : Int} (h : 0 ≤ x ∧ x < 2147483648) : bcI x = bcM x 31 := by
  obtain ⟨n, rfl⟩ : ∃ n : Nat, x = (n : Int) := ⟨x.toNat, by omega⟩
  have hn : n < 2147483648 := by omega
  rw [bcM_N hn 31 (Nat.le_refl _)]
  have e : n = by4 (n / 16777216) (n / 65536 % 256) (n / 256 % 256) (n % 256) := by unfold by4; omega
  rw [show bcI (n : Int) = bcI ((by4 (n / 16777216) (n / 65536 % 256) (n / 256 % 256) (n % 256) : Nat) : Int) from congrArg (fun z : Nat => bcI (z : Int)) e, bcI_N (by omega) (by omega) (by omega) (by omega)]
  congr 1
  have e31 : n / 16777216 / 128 % 2 = 0 := by omega
  simp only [bcN, pc8]
  rw [bb0 n, bb1 n, bb2 n, bb3 n, bb4 n, bb5 n, bb6 n, bb7 n, bb8 n, bb9 n, bb10 n, bb11 n, bb12 n, bb13 n, bb14 n, bb15 n, bb16 n, bb17 n, bb18 n, bb19 n, bb20 n, bb21 n, bb22 n, bb23 n, bb24 n, bb25 n, bb26 n, bb27 n, bb28 n, bb29 n, bb30 n, e31]
  generalize n / 16777216 / 64 % 2 = t30
  generalize n / 16777216 / 32 % 2 = t29
  generalize n / 16777216 / 16 % 2 = t28
  generalize n / 16777216 / 8 % 2 = t27
  generalize n / 16777216 / 4 % 2 = t26
  generalize n / 16777216 / 2 % 2 = t25
  generalize n / 16777216 % 2 = t24
  generalize n / 65536 % 256 / 128 % 2 = t23
  generalize n / 65536 % 256 / 64 % 2 = t22
  generalize n / 65536 % 256 / 32 % 2 = t21
  generalize n / 65536 % 256 / 16 % 2 = t20
  generalize n / 65536 % 256 / 8 % 2 = t19
  generalize n / 65536 % 256 / 4 % 2 = t18
  generalize n / 65536 % 256 / 2 % 2 = t17
  generalize n / 65536 % 256 % 2 = t16
  generalize n / 256 % 256 / 128 % 2 = t15
  generalize n / 256 % 256 / 64 % 2 = t14
  generalize n / 256 % 256 / 32 % 2 = t13
  generalize n / 256 % 256 / 16 % 2 = t12
  generalize n / 256 % 256 / 8 % 2 = t11
  generalize n / 256 % 256 / 4 % 2 = t10
  generalize n / 256 % 256 / 2 % 2 = t9
  generalize n / 256 % 256 % 2 = t8
  generalize n % 256 / 128 % 2 = t7
  generalize n % 256 / 64 % 2 = t6
  generalize n % 256 / 32 % 2 = t5
  generalize n % 256 / 16 % 2 = t4
  generalize n % 256 / 8 % 2 = t3
  generalize n % 256 / 4 % 2 = t2
  generalize n % 256 / 2 % 2 = t1
  generalize n % 256 % 2 = t0
  clear e hn h
  omega
theorem orN (a b : Nat) (ha : a < 2147483648) (hb : b < 2147483648) : orI (a : Int) (b : Int) = ((a ||| b : Nat) : Int) ∧ a ||| b < 2147483648 := by
  have h : a ||| b < 2 ^ 31 := Nat.or_lt_two_pow ha hb
  refine ⟨?_, h⟩
  unfold orI
  rw [← iI_nat, ← iI_nat]
  have e : Int32.ofNat a ||| Int32.ofNat b = Int32.ofNat (a ||| b) := by
    apply Int32.toBitVec_inj.mp
    show BitVec.ofNat 32 a ||| BitVec.ofNat 32 b = BitVec.ofNat 32 (a ||| b)
    rw [BitVec.ofNat_or]
  rw [e, iI_nat, iI_toInt (by omega)]
theorem shl1 : ∀ k : Fin 31, 0 ≤ shlI 1 ((k.val : Nat) : Int) ∧ shlI 1 ((k.val : Nat) : Int) < 2147483648 := by decide +kernel
theorem bsW_pos {k n f o : Int} (hk : 0 ≤ k ∧ k ≤ 2) (hn : isPr n) (h : fOK k n f) (i : Nat) : 0 ≤ bsW k n f o i ∧ bsW k n f o i < 2147483648 := by
  induction i with
  | zero => exact (show (0 : Int) ≤ 0 ∧ (0 : Int) < 2147483648 by decide)
  | succ i ih =>
    have hb := dpt_bd hk hn h ((i : Int) + o)
    rw [bsW]
    generalize bsW k n f o i = x at ih
    generalize dpt k n f ((i : Int) + o) = d at hb
    obtain ⟨a, rfl⟩ : ∃ a : Nat, x = (a : Int) := ⟨x.toNat, by omega⟩
    have h2 := shl1 ⟨d.toNat, by omega⟩
    rw [show (((⟨d.toNat, by omega⟩ : Fin 31).val : Nat) : Int) = d from (show ((d.toNat : Nat) : Int) = d by omega)] at h2
    obtain ⟨c, hc⟩ : ∃ c : Nat, shlI 1 d = (c : Int) := ⟨(shlI 1 d).toNat, by omega⟩
    rw [hc] at h2 ⊢
    obtain ⟨e1, e2⟩ := orN a c (by omega) (by omega)
    rw [e1]
    omega
theorem bcW_eq {k n f o : Int} (hk : 0 ≤ k ∧ k ≤ 2) (hn : isPr n) (h : fOK k n f) (i : Nat) : bcI (bsW k n f o i) = bcM (bsW k n f o i) 31 := bc_eq (bsW_pos hk hn h i)
/-! planes: row by row is the same as one by one -/
theorem plD_comm (k n f x y : Int) : plD k n f x y = plD k n f y x := by unfold plD; rw [Int.add_comm]
theorem ppM_row {k f d : Int} {N : Nat} (hN : 0 < N) (x y : Nat) (hy : y ≤ N) : ppM k (N : Int) f d (N * x + y) = ppM k (N : Int) f d (N * x) + ppI k (N : Int) f d (x : Int) y := by
  induction y with
  | zero => rw [ppI]; simp
  | succ y ih =>
    have e1 : (((N * x + y : Nat) : Int) % (N : Int)) = (y : Int) := by
      rw [← Int.natCast_emod, Nat.mul_add_mod, Nat.mod_eq_of_lt (by omega)]
    have e2 : (((N * x + y : Nat) : Int) / (N : Int)) = (x : Int) := by
      rw [← Int.natCast_ediv, Nat.mul_add_div hN, Nat.div_eq_of_lt (by omega), Nat.add_zero]
    rw [show N * x + (y + 1) = (N * x + y) + 1 by omega, ppM, ih (by omega), e1, e2, ppI, plD_comm k (N : Int) f (y : Int) (x : Int)]
    omega
theorem ppM_all {k f d : Int} {N : Nat} (hN : 0 < N) (x : Nat) : ppM k (N : Int) f d (N * x) = ppO k (N : Int) f d N x := by
  induction x with
  | zero => rfl
  | succ x ih => rw [Nat.mul_succ, ppM_row hN x N (Nat.le_refl _), ih, ppO]
theorem pp_eq {k n f d : Int} (hn : isPr n) : ppO k n f d n.toNat n.toNat = ppM k n f d (n * n).toNat := by
  have hb := isPr_bd hn
  obtain ⟨N, rfl⟩ : ∃ N : Nat, n = (N : Int) := ⟨n.toNat, by omega⟩
  have e : ((N : Int) * (N : Int)).toNat = N * N := by rw [← Int.natCast_mul, Int.toNat_natCast]
  rw [Int.toNat_natCast, e, ppM_all (by omega)]
/-! a number told anew -/
theorem pv_up {v : Nat → Int} {p x : Int} {i j : Nat} (h : j ≠ i) : pv (upI v (5 * p.toNat + i) x) p j = pv v p j := by unfold pv; rw [upI_n (by omega)]
theorem pv_up_s {v : Nat → Int} {p x : Int} {i : Nat} : pv (upI v (5 * p.toNat + i) x) p i = x := by unfold pv; rw [upI_s]
theorem vL_put {v : Nat → Int} {p what x : Int} (h : vL v) (hok : okSet v p what x) : vL (upI v (5 * p.toNat + 2 + what.toNat) x) := by
  obtain ⟨hp, hw⟩ := hok
  have hwb : 0 ≤ what ∧ what ≤ 2 := by omega
  have hvp := vL_p h hp
  obtain ⟨h20, h21, h22, h23, hq⟩ := h
  refine ⟨by rw [upI_n (by omega)]; exact h20, by rw [upI_n (by omega)]; exact h21, by rw [upI_n (by omega)]; exact h22, by rw [upI_n (by omega)]; exact h23, fun q hq1 => ?_⟩
  rw [upI_n (by omega)] at hq1
  by_cases z : q = p.toNat
  · subst z
    rcases (show what = 0 ∨ what = 1 ∨ what = 2 by omega) with e | e | e <;> subst e
    · rw [show 5 * p.toNat + 2 + (0 : Int).toNat = 5 * p.toNat + 2 by rfl, upI_n (by omega), upI_n (by omega), upI_s, upI_n (by omega), upI_n (by omega)]
      exact ⟨hvp.1, hvp.2.1, by rcases hw with w | w | w; exact w.2; omega; omega, hvp.2.2.2⟩
    · rw [show 5 * p.toNat + 2 + (1 : Int).toNat = 5 * p.toNat + 3 by rfl, upI_n (by omega), upI_n (by omega), upI_n (by omega), upI_s, upI_n (by omega)]
      exact ⟨hvp.1, hvp.2.1, hvp.2.2.1, by rcases hw with w | w | w; omega; exact w.2; omega, hvp.2.2.2.2⟩
    · rw [show 5 * p.toNat + 2 + (2 : Int).toNat = 5 * p.toNat + 4 by rfl, upI_n (by omega), upI_n (by omega), upI_n (by omega), upI_n (by omega), upI_s]
      exact ⟨hvp.1, hvp.2.1, hvp.2.2.1, hvp.2.2.2.1, by rcases hw with w | w | w; omega; omega; exact w.2⟩
  · rw [upI_n (by omega), upI_n (by omega), upI_n (by omega), upI_n (by omega), upI_n (by omega)]
    exact hq q hq1
/-! the class: what is kept of it -/
def PastAt (D : va_G) (cs : Nat → ClassId) (M : Nat → Prop) (H : Heap) (kept : Int) (gq : Nat → Option Nat) (bf : Nat → Int) : Prop := ∀ i : Nat, (i : Int) < kept → ∃ y, gq i = some y ∧ PlanAt D cs M H y (fun j => bf (24 * i + j))
def XI (D : va_G) (cs : Nat → ClassId) (M : Nat → Prop) (pl : Nat) (v : Nat → Int) (kept : Int) (gq : Nat → Option Nat) (bf : Nat → Int) (U : State) (H : Heap) : Prop := ((∀ q, M q → q < H.size) ∧ PlanAt D cs M H pl v ∧ PastAt D cs M H kept gq bf) ∧ PZ U H M ∧ ST U
theorem XI_stb {D : va_G} {cs : Nat → ClassId} {M : Nat → Prop} {pl : Nat} {v : Nat → Int} {kept : Int} {gq : Nat → Option Nat} {bf : Nat → Int} : Stb (fun U H => XI D cs M pl v kept gq bf U H) := Stb_and Stb_H (Stb_and (PZ_stb M) ST_stb)
theorem PastAt.kept {D : va_G} {cs : Nat → ClassId} {M : Nat → Prop} {H H1 : Heap} {kept : Int} {gq : Nat → Option Nat} {bf : Nat → Int} (h : PastAt D cs M H kept gq bf) (hq : ∀ q : Nat, q < H.size → ¬ M q → H1[q]? = H[q]?) : PastAt D cs M H1 kept gq bf := fun i hi => by
  obtain ⟨y, e, hy⟩ := h i hi
  exact ⟨y, e, hy.kept hq⟩
theorem XI.kept {D : va_G} {cs : Nat → ClassId} {M : Nat → Prop} {pl : Nat} {v : Nat → Int} {kept : Int} {gq : Nat → Option Nat} {bf : Nat → Int} {U : State} {H H1 : Heap} (h : XI D cs M pl v kept gq bf U H) (hs : H.size ≤ H1.size) (hq : ∀ q : Nat, q < H.size → ¬ M q → H1[q]? = H[q]?) : XI D cs M pl v kept gq bf U H1 :=
  ⟨⟨fun q z => Nat.lt_of_lt_of_le (h.1.1 q z) hs, h.1.2.1.kept hq, h.1.2.2.kept hq⟩, h.2.1.kept hq, h.2.2⟩
theorem XI.inS {D : va_G} {cs : Nat → ClassId} {M A : Nat → Prop} {ws : va_W} {H0 H : Heap} {locs : List Loc} {pl : Nat} {v : Nat → Int} {kept : Int} {gq : Nat → Option Nat} {bf : Nat → Int} {U : State} (h : XI D cs M pl v kept gq bf U H0) (hw : ∀ q, Mw ws q → M q) (hAe : va_A ws H0.size = A) (hS : va_S A H0 H locs) : XI D cs M pl v kept gq bf U H :=
  h.kept hS.1 (fun q h1 h2 => hS.2.1 q h1 (fun z => by rw [← hAe] at z; exact z.elim (fun y => h2 (hw q y)) (fun y => by omega)))
theorem XI.call {D : va_G} {cs : Nat → ClassId} {M : Nat → Prop} {wc : va_W} {H H1 : Heap} {pl : Nat} {v : Nat → Int} {kept : Int} {gq : Nat → Option Nat} {bf : Nat → Int} {U : State} (h : XI D cs M pl v kept gq bf U H) (hw : ∀ q, Mw wc q → M q) (hs : H.size ≤ H1.size) (hk : ∀ q : Nat, q < H.size → ¬ va_A wc H.size q → H1[q]? = H[q]?) : XI D cs M pl v kept gq bf U H1 :=
  h.kept hs (fun q h1 h2 => hk q h1 (fun z => z.elim (fun y => h2 (hw q y)) (fun y => by omega)))
