/-! numbers: indices within their rows -/
theorem eb_rng {v A B : Int32} {n : Nat} (h0 : A ≤ v) (h : v < B) (hA : 0 ≤ A.toInt) (hB : B.toInt ≤ n) : vp_in v n :=
  vp_in_iff.mpr ⟨Int.le_trans hA (Int32.le_iff_toInt_le.mp h0), Int.lt_of_lt_of_le (Int32.lt_iff_toInt_lt.mp h) hB⟩
theorem eb_rngl {v A B : Int32} {n : Nat} (h0 : A ≤ v) (h : v ≤ B) (hA : 0 ≤ A.toInt) (hB : B.toInt < n) : vp_in v n :=
  vp_in_iff.mpr ⟨Int.le_trans hA (Int32.le_iff_toInt_le.mp h0), Int.lt_of_le_of_lt (Int32.le_iff_toInt_le.mp h) hB⟩
theorem eb_max (v : Int32) : v.toInt ≤ 2147483647 := by
  have h2 := v.toInt_le
  have h3 : Int32.maxValue.toInt = 2147483647 := by decide
  omega
theorem eb_min (v : Int32) : -2147483648 ≤ v.toInt := by
  have h2 := v.le_toInt
  have h3 : Int32.minValue.toInt = -2147483648 := by decide
  omega
theorem eb_addI {a b : Int32} (h : -2147483648 ≤ a.toInt + b.toInt) (h2 : a.toInt + b.toInt ≤ 2147483647) : (a + b).toInt = a.toInt + b.toInt := by
  rw [Int32.toInt_add]; exact Int.bmod_eq_of_le (by omega) (by omega)
theorem eb_subI {a b : Int32} (h : -2147483648 ≤ a.toInt - b.toInt) (h2 : a.toInt - b.toInt ≤ 2147483647) : (a - b).toInt = a.toInt - b.toInt := by
  rw [Int32.toInt_sub]; exact Int.bmod_eq_of_le (by omega) (by omega)
theorem eb_mulI {a b : Int32} (h : -2147483648 ≤ a.toInt * b.toInt) (h2 : a.toInt * b.toInt ≤ 2147483647) : (a * b).toInt = a.toInt * b.toInt := by
  rw [Int32.toInt_mul]; exact Int.bmod_eq_of_le (by omega) (by omega)
theorem eb_in_pred {v : Int32} {n : Nat} (h : vp_in v n) (hz : ¬ v = 0) : vp_in (v - 1) n := by
  obtain ⟨h0, h1⟩ := vp_in_iff.mp h
  have hm := eb_max v
  have hne : v.toInt ≠ 0 := fun q => hz (Int32.toInt_inj.mp (by rw [q]; decide))
  have e1 : (1 : Int32).toInt = 1 := by decide
  have e : (v - 1).toInt = v.toInt - 1 := by rw [eb_subI (by rw [e1]; omega) (by rw [e1]; omega), e1]
  exact vp_in_iff.mpr ⟨by omega, by omega⟩
theorem eb_in_succ {v : Int32} {n : Nat} (hn : n < 2147483647) (h : vp_in v n) (h2 : v + 1 < Int32.ofNat n) : vp_in (v + 1) n := by
  obtain ⟨h0, h1⟩ := vp_in_iff.mp h
  have e1 : (1 : Int32).toInt = 1 := by decide
  have e : (v + 1).toInt = v.toInt + 1 := by rw [eb_addI (by rw [e1]; omega) (by rw [e1]; omega), e1]
  have h3 := Int32.lt_iff_toInt_lt.mp h2
  rw [show (Int32.ofNat n).toInt = n from nI_toInt (by omega)] at h3
  exact vp_in_iff.mpr ⟨by omega, by omega⟩
theorem eb_in_csr {v : Int32} (h0 : (944 : Int32) ≤ v) (h : v ≤ 959) : vp_in (v - 944) 16 := by
  have h1 := Int32.le_iff_toInt_le.mp h0
  have h2 := Int32.le_iff_toInt_le.mp h
  have e1 : (944 : Int32).toInt = 944 := by decide
  have e2 : (959 : Int32).toInt = 959 := by decide
  have e : (v - 944).toInt = v.toInt - 944 := by rw [eb_subI (by rw [e1]; omega) (by rw [e1]; omega), e1]
  exact vp_in_iff.mpr ⟨by omega, by omega⟩
theorem eb_min15 {x a : Int32} (e : x = if (15 : Int32) < a then 15 else a) : x.toInt ≤ 15 := by
  rw [e]
  by_cases h : (15 : Int32) < a
  · rw [if_pos h]; decide
  · rw [if_neg h]
    have := Int32.le_iff_toInt_le.mp (eb_nlt h)
    rwa [show (15 : Int32).toInt = 15 by decide] at this
theorem eb_next {i B : Int32} (h0 : 0 ≤ i.toInt) (h : i < B) : 0 ≤ (i + 1).toInt :=
  (eb_up (n := (B.toInt - i.toInt).toNat) h0 h rfl (Nat.lt_succ_self _)).1
theorem eb_in0 {n : Nat} (h : 0 < n) : vp_in 0 n := vp_in_iff.mpr ⟨by decide, by rw [show (0 : Int32).toInt = 0 by decide]; omega⟩
theorem eb_lowne {v : Int32} (h : ¬ v = 0) : ¬ (v.toInt64 &&& 4294967295) = 0 := fun q => h (by
  have q1 := congrArg Int64.toInt32 q
  rw [Int64.toInt32_and, Int32.toInt32_toInt64, show (4294967295 : Int64).toInt32 = -1 by decide] at q1
  simpa using q1)
