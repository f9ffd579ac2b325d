/-! what the two compute -/
def yu (x : Int64) : Nat := x.toUInt64.toNat
theorem yu_lt (x : Int64) : yu x < 18446744073709551616 := x.toUInt64.toNat_lt
theorem yu_int (x : Int64) : x.toInt = if 2 * yu x < 18446744073709551616 then (yu x : Int) else (yu x : Int) - 18446744073709551616 := BitVec.toInt_eq_toNat_cond _
theorem yu_lo (x : Int64) : yu (x &&& 4294967295) = yu x % 4294967296 := by
  show (x.toUInt64 &&& Int64.toUInt64 4294967295).toNat = _
  rw [UInt64.toNat_and]
  exact Nat.and_two_pow_sub_one_eq_mod _ 32
theorem yu_shr (x : Int64) (s : UInt64) : yu (x.toUInt64 >>> s).toInt64 = yu x / 2 ^ (s.toNat % 64) := by
  show (x.toUInt64 >>> s).toNat = _
  rw [UInt64.toNat_shiftRight, Nat.shiftRight_eq_div_pow]
  rfl
theorem yu_s32 (x : Int64) : yu (eb_lushr x 32) = yu x / 4294967296 := by
  have h : ((32 : Int32).toInt64.toUInt64 &&& Int64.toUInt64 63).toNat % 64 = 32 := by decide
  unfold eb_lushr
  rw [yu_shr, h]
theorem yu_s1 (x : Int64) : yu (eb_lushr x 1) = yu x / 2 := by
  have h : ((1 : Int32).toInt64.toUInt64 &&& Int64.toUInt64 63).toNat % 64 = 1 := by decide
  unfold eb_lushr
  rw [yu_shr, h]
theorem y_s32 (x : Int64) : (eb_lshr x 32).toInt = x.toInt / 4294967296 := by
  unfold eb_lshr
  rw [eb_shrL x _ 32 (by decide), Int.shiftRight_eq_div_pow]
  rfl
def ym (x : Int64) (z : Int) : Prop := ∃ k : Int, x.toInt = z + 18446744073709551616 * k
theorem y_bm (x : Int) : ∃ k : Int, x.bmod (2 ^ 64) = x + 18446744073709551616 * k := by
  unfold Int.bmod
  simp only []
  split
  · exact ⟨-(x / 18446744073709551616), by omega⟩
  · exact ⟨-(x / 18446744073709551616) - 1, by omega⟩
theorem y_rngL (x : Int64) : -9223372036854775808 ≤ x.toInt ∧ x.toInt < 9223372036854775808 := by
  have h := yu_lt x
  rw [yu_int]
  split <;> omega
theorem ym_0 (x : Int64) : ym x x.toInt := ⟨0, by omega⟩
theorem ym_u (x : Int64) : ym x (yu x) := by
  rw [ym, yu_int]
  split
  · exact ⟨0, by omega⟩
  · exact ⟨-1, by omega⟩
theorem ym_add {x y : Int64} {z w : Int} (h : ym x z) (h2 : ym y w) : ym (x + y) (z + w) := by
  obtain ⟨k, e⟩ := h
  obtain ⟨l, f⟩ := h2
  obtain ⟨m, g⟩ := y_bm (x.toInt + y.toInt)
  refine ⟨k + l + m, ?_⟩
  rw [Int64.toInt_add, g]
  omega
theorem ym_sub {x y : Int64} {z w : Int} (h : ym x z) (h2 : ym y w) : ym (x - y) (z - w) := by
  obtain ⟨k, e⟩ := h
  obtain ⟨l, f⟩ := h2
  obtain ⟨m, g⟩ := y_bm (x.toInt - y.toInt)
  refine ⟨k - l + m, ?_⟩
  rw [Int64.toInt_sub, g]
  omega
theorem ym_mul {x y : Int64} {z w : Int} (h : ym x z) (h2 : ym y w) : ym (x * y) (z * w) := by
  obtain ⟨k, e⟩ := h
  obtain ⟨l, f⟩ := h2
  obtain ⟨m, g⟩ := y_bm (x.toInt * y.toInt)
  refine ⟨z * l + k * w + 18446744073709551616 * (k * l) + m, ?_⟩
  rw [Int64.toInt_mul, g, e, f]
  have h3 : (z + 18446744073709551616 * k) * (w + 18446744073709551616 * l) = z * w + 18446744073709551616 * (z * l) + 18446744073709551616 * (k * w) + 18446744073709551616 * (18446744073709551616 * (k * l)) := by
    rw [Int.add_mul, Int.mul_add, Int.mul_add, Int.mul_left_comm z, Int.mul_assoc _ k w, Int.mul_assoc _ k, Int.mul_left_comm k]
    omega
  rw [h3]
  omega
theorem ym_ext {x y : Int64} {z : Int} (h : ym x z) (h2 : ym y z) : x = y := by
  obtain ⟨k, e⟩ := h
  obtain ⟨l, f⟩ := h2
  have hx := y_rngL x
  have hy := y_rngL y
  apply Int64.toInt_inj.mp
  omega
theorem ym_i {x : Int64} {z : Int} (h : ym x z) (h0 : -9223372036854775808 ≤ z) (h1 : z < 9223372036854775808) : x.toInt = z := by
  obtain ⟨k, e⟩ := h
  have hx := y_rngL x
  omega
theorem ym_n {x : Int64} {z : Int} (h : ym x z) (h0 : 0 ≤ z) (h1 : z < 18446744073709551616) : (yu x : Int) = z := by
  obtain ⟨k, e⟩ := h
  have hx := yu_lt x
  rw [yu_int] at e
  split at e <;> omega
theorem ym_c {x : Int64} {z w : Int} (h : ym x z) (e : z = w) : ym x w := e ▸ h
theorem ym_m {x : Int64} {z w : Int} (h : ym x z) (k : Int) (e : z = w + 18446744073709551616 * k) : ym x w := by
  obtain ⟨l, f⟩ := h
  exact ⟨k + l, by omega⟩
/-- the digits of a number -/
theorem y_dig (a : Int64) : ∃ A1 A0 s : Int, 0 ≤ A1 ∧ A1 < 4294967296 ∧ 0 ≤ A0 ∧ A0 < 4294967296 ∧ (a.toInt < 0 ∧ s = 1 ∨ 0 ≤ a.toInt ∧ s = 0) ∧ a.toInt = 4294967296 * A1 + A0 - 18446744073709551616 * s ∧ (yu a : Int) = 4294967296 * A1 + A0 := by
  have h := yu_lt a
  have hi := yu_int a
  refine ⟨(yu a : Int) / 4294967296, (yu a : Int) % 4294967296, if a.toInt < 0 then 1 else 0, ?_⟩
  split at hi <;> split <;> omega
theorem y_pb {A B : Int} (h0 : 0 ≤ A) (h1 : A < 4294967296) (h2 : 0 ≤ B) (h3 : B < 4294967296) : 0 ≤ A * B ∧ A * B ≤ 18446744065119617025 := by
  refine ⟨Int.mul_nonneg h0 h2, ?_⟩
  have := Int.mul_le_mul (a := A) (b := B) (c := 4294967295) (d := 4294967295) (by omega) (by omega) h2 (by omega)
  omega
theorem y_upper (a b : Int64) {A1 A0 B1 B0 : Int} (a1 : 0 ≤ A1) (a2 : A1 < 4294967296) (a3 : 0 ≤ A0) (a4 : A0 < 4294967296) (b1 : 0 ≤ B1) (b2 : B1 < 4294967296) (b3 : 0 ≤ B0) (b4 : B0 < 4294967296) (ea : (yu a : Int) = 4294967296 * A1 + A0) (eb : (yu b : Int) = 4294967296 * B1 + B0) : ym (m_X10_upper a b) (A1 * B1 + (A1 * B0 + A0 * B0 / 4294967296) / 4294967296 + (A0 * B1 + (A1 * B0 + A0 * B0 / 4294967296) % 4294967296) / 4294967296) := by
  have p00 := y_pb a3 a4 b3 b4
  have p10 := y_pb a1 a2 b3 b4
  have p01 := y_pb a3 a4 b1 b2
  have lo : ∀ x : Int64, ((yu (x &&& 4294967295) : Nat) : Int) = (yu x : Int) % 4294967296 := fun x => by rw [yu_lo]; omega
  have hi : ∀ x : Int64, ((yu (eb_lushr x 32) : Nat) : Int) = (yu x : Int) / 4294967296 := fun x => by rw [yu_s32]; omega
  have x1 : ym (a &&& 4294967295) A0 := ym_c (ym_u _) (by rw [lo, ea]; omega)
  have x2 : ym (eb_lushr a 32) A1 := ym_c (ym_u _) (by rw [hi, ea]; omega)
  have x3 : ym (b &&& 4294967295) B0 := ym_c (ym_u _) (by rw [lo, eb]; omega)
  have x4 : ym (eb_lushr b 32) B1 := ym_c (ym_u _) (by rw [hi, eb]; omega)
  have p := ym_mul x1 x3
  have pp : ym (eb_lushr ((a &&& 4294967295) * (b &&& 4294967295)) 32) (A0 * B0 / 4294967296) := ym_c (ym_u _) (by rw [hi, ym_n p (by omega) (by omega)])
  have x5 := ym_add (ym_mul x2 x3) pp
  have n5 := ym_n x5 (by omega) (by omega)
  have l5 : ym ((eb_lushr a 32 * (b &&& 4294967295) + eb_lushr ((a &&& 4294967295) * (b &&& 4294967295)) 32) &&& 4294967295) ((A1 * B0 + A0 * B0 / 4294967296) % 4294967296) := ym_c (ym_u _) (by rw [lo, n5])
  have h5 : ym (eb_lushr (eb_lushr a 32 * (b &&& 4294967295) + eb_lushr ((a &&& 4294967295) * (b &&& 4294967295)) 32) 32) ((A1 * B0 + A0 * B0 / 4294967296) / 4294967296) := ym_c (ym_u _) (by rw [hi, n5])
  have x6 := ym_add (ym_mul x1 x4) l5
  have n6 := ym_n x6 (by omega) (by omega)
  exact ym_add (ym_add (ym_mul x2 x4) h5) (ym_c (ym_u _) (by rw [hi, n6]))
theorem y_mh (a b : Int64) {A1 A0 B1 B0 X Y s t : Int} (a1 : 0 ≤ A1) (a2 : A1 < 4294967296) (a3 : 0 ≤ A0) (a4 : A0 < 4294967296) (b1 : 0 ≤ B1) (b2 : B1 < 4294967296) (b3 : 0 ≤ B0) (b4 : B0 < 4294967296) (ea : a.toInt = 4294967296 * X + A0) (eb : b.toInt = 4294967296 * Y + B0) (hs : s = 0 ∨ s = 1) (ht : t = 0 ∨ t = 1) (eX : X = A1 - 4294967296 * s) (eY : Y = B1 - 4294967296 * t) : ym (m_J9_multiplyHigh_f86c9 a b) (X * Y + (X * B0 + A0 * B0 / 4294967296) / 4294967296 + ((X * B0 + A0 * B0 / 4294967296) % 4294967296 + A0 * Y) / 4294967296) := by
  have ra := y_rngL a
  have rb := y_rngL b
  have p00 := y_pb a3 a4 b3 b4
  have p10 := y_pb a1 a2 b3 b4
  have p01 := y_pb a3 a4 b1 b2
  have xb : -9223372036854775808 ≤ X * B0 ∧ X * B0 ≤ 9223372030412324865 := by
    have hx : -2147483648 ≤ X ∧ X ≤ 2147483647 := by omega
    constructor
    · have := Int.mul_le_mul_of_nonneg_right (a := -2147483648) (b := X) (c := B0) hx.1 b3
      omega
    · have := Int.mul_le_mul_of_nonneg_right (a := X) (b := 2147483647) (c := B0) hx.2 b3
      omega
  have ay : -9223372036854775808 ≤ A0 * Y ∧ A0 * Y ≤ 9223372030412324865 := by
    have hx : -2147483648 ≤ Y ∧ Y ≤ 2147483647 := by omega
    rw [Int.mul_comm]
    constructor
    · have := Int.mul_le_mul_of_nonneg_right (a := -2147483648) (b := Y) (c := A0) hx.1 a3
      omega
    · have := Int.mul_le_mul_of_nonneg_right (a := Y) (b := 2147483647) (c := A0) hx.2 a3
      omega
  have lo : ∀ x : Int64, ym (x &&& 4294967295) (x.toInt % 4294967296) := fun x => ym_c (ym_u _) (by
    have h := yu_lt x
    rw [yu_lo, yu_int]
    split <;> omega)
  have hi : ∀ x : Int64, ((yu (eb_lushr x 32) : Nat) : Int) = (yu x : Int) / 4294967296 := fun x => by rw [yu_s32]; omega
  have x1 : ym (eb_lshr a 32) X := ym_c (ym_0 _) (by rw [y_s32]; omega)
  have x2 : ym (a &&& 4294967295) A0 := ym_c (lo a) (by omega)
  have x3 : ym (eb_lshr b 32) Y := ym_c (ym_0 _) (by rw [y_s32]; omega)
  have x4 : ym (b &&& 4294967295) B0 := ym_c (lo b) (by omega)
  have p := ym_mul x2 x4
  have pp : ym (eb_lushr ((a &&& 4294967295) * (b &&& 4294967295)) 32) (A0 * B0 / 4294967296) := ym_c (ym_u _) (by rw [hi, ym_n p (by omega) (by omega)])
  have x6 := ym_add (ym_mul x1 x4) pp
  have i6 := ym_i x6 (by omega) (by omega)
  have x7 : ym ((eb_lshr a 32 * (b &&& 4294967295) + eb_lushr ((a &&& 4294967295) * (b &&& 4294967295)) 32) &&& 4294967295) ((X * B0 + A0 * B0 / 4294967296) % 4294967296) := ym_c (lo _) (by rw [i6])
  have x8 : ym (eb_lshr (eb_lshr a 32 * (b &&& 4294967295) + eb_lushr ((a &&& 4294967295) * (b &&& 4294967295)) 32) 32) ((X * B0 + A0 * B0 / 4294967296) / 4294967296) := ym_c (ym_0 _) (by rw [y_s32, i6])
  have x9 := ym_add x7 (ym_mul x2 x3)
  have i9 := ym_i x9 (by omega) (by omega)
  exact ym_add (ym_add (ym_mul x1 x3) x8) (ym_c (ym_0 _) (by rw [y_s32, i9]))
theorem y_mul (a b : Int64) : m_J9_multiplyHigh_f86c9 a b = m_X10_upper a b - (if a < 0 then b else 0) - (if b < 0 then a else 0) := by
  obtain ⟨A1, A0, s, a1, a2, a3, a4, a5, a6, a7⟩ := y_dig a
  obtain ⟨B1, B0, t, b1, b2, b3, b4, b5, b6, b7⟩ := y_dig b
  have hU := y_upper a b a1 a2 a3 a4 b1 b2 b3 b4 a7 b7
  have hH := y_mh a b (X := A1 - 4294967296 * s) (Y := B1 - 4294967296 * t) a1 a2 a3 a4 b1 b2 b3 b4 (by omega) (by omega) (by omega) (by omega) rfl rfl
  have e0 : (0 : Int64).toInt = 0 := by decide
  have p00 := y_pb a3 a4 b3 b4
  have p10 := y_pb a1 a2 b3 b4
  have p01 := y_pb a3 a4 b1 b2
  have hb : ym (if a < 0 then b else 0) (s * (4294967296 * B1 + B0)) := by
    rcases a5 with ⟨h, hs⟩ | ⟨h, hs⟩
    · rw [if_pos (by rw [Int64.lt_iff_toInt_lt, e0]; exact h), hs, Int.one_mul]
      exact ym_c (ym_u b) b7
    · rw [if_neg (by rw [Int64.lt_iff_toInt_lt, e0]; omega), hs, Int.zero_mul]
      exact ym_c (ym_0 0) e0
  have ha : ym (if b < 0 then a else 0) (t * (4294967296 * A1 + A0)) := by
    rcases b5 with ⟨h, hs⟩ | ⟨h, hs⟩
    · rw [if_pos (by rw [Int64.lt_iff_toInt_lt, e0]; exact h), hs, Int.one_mul]
      exact ym_c (ym_u a) a7
    · rw [if_neg (by rw [Int64.lt_iff_toInt_lt, e0]; omega), hs, Int.zero_mul]
      exact ym_c (ym_0 0) e0
  refine ym_ext hH (ym_m (ym_sub (ym_sub hU hb) ha) (-(s * t)) ?_)
  generalize A0 * B0 / 4294967296 = F
  have f1 : (A1 - 4294967296 * s) * B0 = A1 * B0 - 4294967296 * (s * B0) := by rw [Int.sub_mul, Int.mul_assoc]
  have f2 : A0 * (B1 - 4294967296 * t) = A0 * B1 - 4294967296 * (t * A0) := by rw [Int.mul_sub, Int.mul_left_comm, Int.mul_comm A0 t]
  have f3 : (A1 - 4294967296 * s) * (B1 - 4294967296 * t) = A1 * B1 - 4294967296 * (t * A1) - 4294967296 * (s * B1) + 18446744073709551616 * (s * t) := by
    rw [Int.sub_mul, Int.mul_sub, Int.mul_sub, Int.mul_left_comm A1, Int.mul_comm A1 t, Int.mul_assoc _ s B1, Int.mul_assoc _ s, Int.mul_left_comm s]
    omega
  have f4 : s * (4294967296 * B1 + B0) = 4294967296 * (s * B1) + s * B0 := by rw [Int.mul_add, Int.mul_left_comm]
  have f5 : t * (4294967296 * A1 + A0) = 4294967296 * (t * A1) + t * A0 := by rw [Int.mul_add, Int.mul_left_comm]
  rw [f1, f2, f3, f4, f5]
  generalize A1 * B0 = P
  generalize A0 * B1 = R
  generalize A1 * B1 = S
  generalize s * B0 = g1
  generalize t * A0 = g2
  generalize t * A1 = g3
  generalize s * B1 = g4
  generalize s * t = g5
  omega
theorem y_sg (a b : Int64) : a &&& eb_lshr b 63 = if b < 0 then a else 0 := by
  have hb : yl b 63 = decide (b < 0) := by
    show b.toBitVec.getLsbD (64 - 1) = _
    rw [← BitVec.msb_eq_getLsbD_last, BitVec.msb_eq_toInt]
    have : (b < 0) ↔ (b.toBitVec.toInt < 0) := by
      rw [Int64.lt_iff_toInt_lt, show (0 : Int64).toInt = 0 by decide]
      exact Iff.rfl
    exact decide_eq_decide.mpr this.symm
  apply yl_ext
  intro i hi
  rw [yl_and, show (63 : Int32) = nI 63 from rfl, yl_sshr 63 (by omega) _ hi]
  have e : (if 63 + i < 64 then yl b (63 + i) else yl b 63) = yl b 63 := by
    by_cases h : 63 + i < 64
    · rw [if_pos h, show 63 + i = 63 by omega]
    · rw [if_neg h]
  rw [e, hb]
  by_cases h : b < 0
  · rw [if_pos h]; simp [h]
  · rw [if_neg h, yl_0]; simp [h]
theorem y_cu (a b : Int64) : (0 ≤ m_J13_compareUnsigned_74951 a b) = (m_X10_isBelow a b = false) := by
  show (0 ≤ m_J13_compare_74951 (a + (-9223372036854775808)) (b + (-9223372036854775808))) = _
  unfold m_J13_compare_74951 m_X10_isBelow
  by_cases h : b + (-9223372036854775808) ≤ a + (-9223372036854775808)
  · rw [if_pos h, if_pos h]
    by_cases h2 : a + (-9223372036854775808) = b + (-9223372036854775808)
    · rw [if_pos h2]; simp
    · rw [if_neg h2]; simp
  · rw [if_neg h, if_neg h]; simp
theorem y_cu2 (a b : Int64) : (m_J13_compareUnsigned_74951 a b < 0) = (m_X10_isBelow a b = true) := by
  have h := y_cu a b
  have h2 : (m_J13_compareUnsigned_74951 a b < 0) ↔ ¬ (0 ≤ m_J13_compareUnsigned_74951 a b) := by
    rw [Int32.lt_iff_toInt_lt, Int32.le_iff_toInt_le]; omega
  rw [propext h2, h]
  simp
theorem y_bel {x y : Nat} (hx : x < 2 ^ 63) (hy : y < 2 ^ 63) : m_X10_isBelow (lN x) (lN y) = decide (x < y) := by
  have e : ∀ z : Nat, z < 2 ^ 63 → (lN z + (-9223372036854775808)).toInt = (z : Int) - 9223372036854775808 := fun z hz => by
    have := ym_add (ym_0 (lN z)) (ym_0 (-9223372036854775808))
    rw [pk_lT hz, show (-9223372036854775808 : Int64).toInt = -9223372036854775808 by decide] at this
    rw [ym_i this (by omega) (by omega)]; omega
  unfold m_X10_isBelow
  by_cases h : x < y
  · rw [if_neg (by rw [Int64.le_iff_toInt_le, e _ hx, e _ hy]; omega), decide_eq_true h]
  · rw [if_pos (by rw [Int64.le_iff_toInt_le, e _ hx, e _ hy]; omega), decide_eq_false h]
theorem y_quo (a b : Int64) (hb : ¬ b = 0) : m_X0_quotientWithoutSign a b = m_X10_divided a b := by
  unfold m_X0_quotientWithoutSign m_X10_divided
  rw [if_neg hb]
  by_cases h0 : (0 : Int64) ≤ b
  · rw [if_pos h0, if_pos h0]
    by_cases ha : a < 0
    · rw [if_pos ha]
      show (if 0 ≤ m_J13_compareUnsigned_74951 (a - eb_lshl (eb_lushr a 1 / b) 1 * b) b then eb_lshl (eb_lushr a 1 / b) 1 + 1 else eb_lshl (eb_lushr a 1 / b) 1) = if (eb_b (m_X10_isBelow (a - eb_lshl (eb_lushr a 1 / b) 1 * b) b)) = 0 then eb_lshl (eb_lushr a 1 / b) 1 + 1 else eb_lshl (eb_lushr a 1 / b) 1
      simp only [y_cu]
      cases m_X10_isBelow (a - eb_lshl (eb_lushr a 1 / b) 1 * b) b <;> rfl
    · rw [if_neg ha]
      show (if 0 ≤ m_J13_compareUnsigned_74951 (a - eb_lshl (eb_lushr a 1 / b) 1 * b) b then eb_lshl (eb_lushr a 1 / b) 1 + 1 else eb_lshl (eb_lushr a 1 / b) 1) = a / b
      obtain ⟨A, hA, rfl⟩ := pk_lOf ha
      obtain ⟨B, hB, rfl⟩ := pk_lOf (x := b) (by rw [Int64.le_iff_toInt_le] at h0; rw [Int64.lt_iff_toInt_lt]; omega)
      have hB0 : 0 < B := by
        rcases Nat.eq_zero_or_pos B with z | z
        · exact absurd (by rw [z]; rfl) hb
        · exact z
      have e1 : eb_lushr (lN A) 1 = lN (A / 2) := by
        have t1 : yu (eb_lushr (lN A) 1) = A / 2 := by
          rw [yu_s1]
          congr 1
          exact Nat.mod_eq_of_lt (by omega)
        refine ym_ext (ym_c (ym_u _) (congrArg Nat.cast t1)) (ym_c (ym_0 _) (pk_lT (by omega)))
      have hk : A / 2 / B ≤ A / 2 := Nat.div_le_self _ _
      have e2 : eb_lshl (lN (A / 2 / B)) 1 = lN (2 * (A / 2 / B)) := by
        apply yl_ext
        intro i hi
        rw [show (1 : Int32) = nI 1 from rfl, yl_shl 1 (by omega) _ hi, yl_lN _ (by omega), yl_lN _ hi, show (2 : Nat) = 2 ^ 1 from rfl, Nat.testBit_two_pow_mul]
      rw [e1, pk_lDiv (by omega) hB0 (by omega), e2, pk_lDiv hA hB0 hB]
      have hd := Nat.div_add_mod (A / 2) B
      have hm := Nat.mod_lt (A / 2) hB0
      have e5 : 2 * (A / 2 / B) * B = 2 * (B * (A / 2 / B)) := by rw [Nat.mul_assoc, Nat.mul_comm B]
      have e3 : lN A - lN (2 * (A / 2 / B)) * lN B = lN (2 * (A / 2 % B) + A % 2) := by
        rw [lN_mul, lN_sub (by omega)]
        congr 1
        omega
      have e6 : ∀ k, (k + 1) * B = k * B + B := fun k => Nat.succ_mul k B
      have hAB : A / B = if 2 * (A / 2 % B) + A % 2 < B then 2 * (A / 2 / B) else 2 * (A / 2 / B) + 1 := by
        by_cases h : 2 * (A / 2 % B) + A % 2 < B
        · rw [if_pos h]
          exact Nat.div_eq_of_lt_le (by rw [e5]; omega) (by rw [e6, e5]; omega)
        · rw [if_neg h]
          exact Nat.div_eq_of_lt_le (by rw [e6, e5]; omega) (by rw [e6, e6, e5]; omega)
      rw [e3]
      simp only [y_cu]
      rw [y_bel (by omega) (by omega), hAB]
      by_cases h : 2 * (A / 2 % B) + A % 2 < B
      · simp [h]
      · simp [h]; exact lN_1 _
  · rw [if_neg h0, if_neg h0]
    show (if 0 ≤ m_J13_compareUnsigned_74951 a b then (1 : Int64) else 0) = if (eb_b (m_X10_isBelow a b)) = 0 then 1 else 0
    simp only [y_cu]
    cases m_X10_isBelow a b <;> rfl
theorem y_divm1 (a : Int64) : a / (-1) = -a := by
  apply Int64.toInt_inj.mp
  rw [Int64.toInt_div, show (-1 : Int64).toInt = -1 by decide, Int64.toInt_neg, Int.tdiv_neg, Int.tdiv_one]
theorem y_divm1I (a : Int32) : a / (-1) = -a := by
  apply Int32.toInt_inj.mp
  rw [Int32.toInt_div, show (-1 : Int32).toInt = -1 by decide, Int32.toInt_neg, Int.tdiv_neg, Int.tdiv_one]
theorem y_remm1 (a : Int64) : a - a / (-1) * (-1) = 0 := by
  rw [y_divm1, Int64.neg_mul, Int64.mul_neg, Int64.mul_one, Int64.neg_neg, Int64.sub_self]
theorem y_remm1I (a : Int32) : a - a / (-1) * (-1) = 0 := by
  rw [y_divm1I, Int32.neg_mul, Int32.mul_neg, Int32.mul_one, Int32.neg_neg, Int32.sub_self]
theorem y_and63 (b : Int64) : b.toInt32 &&& 63 = (b &&& 63).toInt32 := by
  apply yb_ext
  intro i hi
  rw [yb_and, yb_nar _ hi, yb_nar _ hi, yl_and, show (63 : Int32) = nI 63 from rfl, show (63 : Int64) = lN 63 from rfl, yb_nI _ hi, yl_lN _ (by omega)]
theorem y_fld (w : Int32) (n k : Nat) (h : n + k ≤ 32) (hn : n < 32) : eb_iushr w (nI n) &&& nI (2 ^ k - 1) = (w >>> (nI n &&& 31)) &&& nI (2 ^ k - 1) := by
  apply yb_ext
  intro i hi
  rw [yb_and, yb_and, yb_ushr n hn, yb_sshr n hn _ hi, yb_nI _ hi, Nat.testBit_two_pow_sub_one]
  by_cases h2 : i < k
  · rw [if_pos (by omega)]
  · simp [h2]
theorem y_rd (w : Int32) : (eb_iushr w 7 &&& (31 : Int32)) = (w >>> ((7 : Int32) &&& 31)) &&& (31 : Int32) := y_fld w 7 5 (by omega) (by omega)
theorem y_f3 (w : Int32) : m_X3_kind w = (w >>> (12 &&& 31)) &&& 7 := y_fld w 12 3 (by omega) (by omega)
theorem y_rs1 (w : Int32) : (eb_iushr w 15 &&& (31 : Int32)) = (w >>> ((15 : Int32) &&& 31)) &&& (31 : Int32) := y_fld w 15 5 (by omega) (by omega)
theorem y_rs2 (w : Int32) : (eb_iushr w 20 &&& (31 : Int32)) = (w >>> ((20 : Int32) &&& 31)) &&& (31 : Int32) := y_fld w 20 5 (by omega) (by omega)
theorem yb_1 (j : Nat) : yb 1 j = decide (j = 0) := by
  rcases Nat.lt_or_ge j 32 with z | z
  · exact (by decide +kernel : ∀ j, j < 32 → yb 1 j = decide (j = 0)) j z
  · rw [yb_big z, decide_eq_false (by omega)]
theorem yb_63 (j : Nat) : yb 63 j = decide (j < 6) := by
  rcases Nat.lt_or_ge j 32 with z | z
  · exact (by decide +kernel : ∀ j, j < 32 → yb 63 j = decide (j < 6)) j z
  · rw [yb_big z, decide_eq_false (by omega)]
theorem yb_15 (j : Nat) : yb 15 j = decide (j < 4) := by
  rcases Nat.lt_or_ge j 32 with z | z
  · exact (by decide +kernel : ∀ j, j < 32 → yb 15 j = decide (j < 4)) j z
  · rw [yb_big z, decide_eq_false (by omega)]
theorem yb_1023 (j : Nat) : yb 1023 j = decide (j < 10) := by
  rcases Nat.lt_or_ge j 32 with z | z
  · exact (by decide +kernel : ∀ j, j < 32 → yb 1023 j = decide (j < 10)) j z
  · rw [yb_big z, decide_eq_false (by omega)]
theorem y_bo (w : Int32) : m_X3_branchOffset w = ((((w >>> (31 &&& 31)) <<< (12 &&& 31)) ||| ((w <<< (4 &&& 31)) &&& (2048 : Int32))) ||| ((w >>> (20 &&& 31)) &&& (2016 : Int32))) ||| ((w >>> (7 &&& 31)) &&& (30 : Int32)) := by
  unfold m_X3_branchOffset
  apply yb_ext
  intro i hi
  have m2048 : yb 2048 i = decide (i = 11) := (by decide +kernel : ∀ j, j < 32 → yb 2048 j = decide (j = 11)) i hi
  have m2016 : yb 2016 i = decide (5 ≤ i ∧ i < 11) := (by decide +kernel : ∀ j, j < 32 → yb 2016 j = decide (5 ≤ j ∧ j < 11)) i hi
  have m30 : yb 30 i = decide (1 ≤ i ∧ i < 5) := (by decide +kernel : ∀ j, j < 32 → yb 30 j = decide (1 ≤ j ∧ j < 5)) i hi
  have b1 : yb (((eb_iushr w 7) &&& 1) <<< ((11 : Int32) &&& 31)) i = yb ((w <<< ((4 : Int32) &&& 31)) &&& (2048 : Int32)) i := by
    rw [yb_and, m2048]
    refine (yb_shl 11 (by omega) _ hi).trans ?_
    rw [yb_and, yb_1, show yb (eb_iushr w 7) (i - 11) = yb w (7 + (i - 11)) from yb_ushr 7 (by omega) w _, show yb (w <<< ((4 : Int32) &&& 31)) i = (decide (4 ≤ i) && yb w (i - 4)) from yb_shl 4 (by omega) w hi]
    by_cases h : i = 11
    · rw [h]; simp
    · rw [decide_eq_false h]
      by_cases h2 : 11 ≤ i
      · rw [decide_eq_false (show ¬ i - 11 = 0 by omega)]; simp
      · rw [decide_eq_false h2]; simp
  have b2 : yb (((eb_iushr w 25) &&& 63) <<< ((5 : Int32) &&& 31)) i = yb ((w >>> ((20 : Int32) &&& 31)) &&& (2016 : Int32)) i := by
    rw [yb_and, m2016]
    refine (yb_shl 5 (by omega) _ hi).trans ?_
    rw [yb_and, yb_63, show yb (eb_iushr w 25) (i - 5) = yb w (25 + (i - 5)) from yb_ushr 25 (by omega) w _, show yb (w >>> ((20 : Int32) &&& 31)) i = _ from yb_sshr 20 (by omega) w hi]
    by_cases h : 5 ≤ i ∧ i < 11
    · rw [decide_eq_true h, decide_eq_true h.1, decide_eq_true (show i - 5 < 6 by omega), if_pos (by omega), show 25 + (i - 5) = 20 + i by omega]; simp
    · rw [decide_eq_false h]
      by_cases h2 : 5 ≤ i
      · rw [decide_eq_false (show ¬ i - 5 < 6 by omega)]; simp
      · rw [decide_eq_false h2]; simp
  have b3 : yb (((eb_iushr w 8) &&& 15) <<< ((1 : Int32) &&& 31)) i = yb ((w >>> ((7 : Int32) &&& 31)) &&& (30 : Int32)) i := by
    rw [yb_and, m30]
    refine (yb_shl 1 (by omega) _ hi).trans ?_
    rw [yb_and, yb_15, show yb (eb_iushr w 8) (i - 1) = yb w (8 + (i - 1)) from yb_ushr 8 (by omega) w _, show yb (w >>> ((7 : Int32) &&& 31)) i = _ from yb_sshr 7 (by omega) w hi]
    by_cases h : 1 ≤ i ∧ i < 5
    · rw [decide_eq_true h, decide_eq_true h.1, decide_eq_true (show i - 1 < 4 by omega), if_pos (by omega), show 8 + (i - 1) = 7 + i by omega]; simp
    · rw [decide_eq_false h]
      by_cases h2 : 1 ≤ i
      · rw [decide_eq_false (show ¬ i - 1 < 4 by omega)]; simp
      · rw [decide_eq_false h2]; simp
  rw [yb_or, yb_or, yb_or, yb_or, yb_or, yb_or, b1, b2, b3]
theorem y_jo (w : Int32) : m_X3_jumpOffset w = ((((w >>> (31 &&& 31)) <<< (20 &&& 31)) ||| (w &&& (1044480 : Int32))) ||| ((w >>> (9 &&& 31)) &&& (2048 : Int32))) ||| ((w >>> (20 &&& 31)) &&& (2046 : Int32)) := by
  unfold m_X3_jumpOffset
  apply yb_ext
  intro i hi
  have m2048 : yb 2048 i = decide (i = 11) := (by decide +kernel : ∀ j, j < 32 → yb 2048 j = decide (j = 11)) i hi
  have m2046 : yb 2046 i = decide (1 ≤ i ∧ i < 11) := (by decide +kernel : ∀ j, j < 32 → yb 2046 j = decide (1 ≤ j ∧ j < 11)) i hi
  have b1 : yb (((eb_iushr w 20) &&& (1 : Int32)) <<< ((11 : Int32) &&& 31)) i = yb ((w >>> ((9 : Int32) &&& 31)) &&& (2048 : Int32)) i := by
    rw [yb_and, m2048]
    refine (yb_shl 11 (by omega) _ hi).trans ?_
    rw [yb_and, yb_1, show yb (eb_iushr w 20) (i - 11) = yb w (20 + (i - 11)) from yb_ushr 20 (by omega) w _, show yb (w >>> ((9 : Int32) &&& 31)) i = _ from yb_sshr 9 (by omega) w hi]
    by_cases h : i = 11
    · rw [h]; simp
    · rw [decide_eq_false h]
      by_cases h2 : 11 ≤ i
      · rw [decide_eq_false (show ¬ i - 11 = 0 by omega)]; simp
      · rw [decide_eq_false h2]; simp
  have b2 : yb (((eb_iushr w 21) &&& (1023 : Int32)) <<< ((1 : Int32) &&& 31)) i = yb ((w >>> ((20 : Int32) &&& 31)) &&& (2046 : Int32)) i := by
    rw [yb_and, m2046]
    refine (yb_shl 1 (by omega) _ hi).trans ?_
    rw [yb_and, yb_1023, show yb (eb_iushr w 21) (i - 1) = yb w (21 + (i - 1)) from yb_ushr 21 (by omega) w _, show yb (w >>> ((20 : Int32) &&& 31)) i = _ from yb_sshr 20 (by omega) w hi]
    by_cases h : 1 ≤ i ∧ i < 11
    · rw [decide_eq_true h, decide_eq_true h.1, decide_eq_true (show i - 1 < 10 by omega), if_pos (by omega), show 21 + (i - 1) = 20 + i by omega]; simp
    · rw [decide_eq_false h]
      by_cases h2 : 1 ≤ i
      · rw [decide_eq_false (show ¬ i - 1 < 10 by omega)]; simp
      · rw [decide_eq_false h2]; simp
  rw [yb_or, yb_or, yb_or, yb_or, yb_or, yb_or, b1, b2]
