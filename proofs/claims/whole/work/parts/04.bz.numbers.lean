/-! numbers of the reference's accesses -/
theorem l_X10_isMemory {a : Int64} {n : Int32} (h : m_X10_isMemory a n = true) (h0 : 0 ≤ n.toInt) (h1 : n.toInt ≤ 65536) : 0 ≤ a.toInt32.toInt ∧ a.toInt32.toInt + n.toInt ≤ 65536 := by
  unfold m_X10_isMemory at h
  by_cases q1 : a < 0
  · rw [if_pos q1] at h; exact absurd h (by decide)
  · rw [if_neg q1] at h
    by_cases q2 : (65536 - n).toInt64 < a
    · rw [if_pos q2] at h; exact absurd h (by decide)
    · obtain ⟨k, hk, rfl⟩ := pk_lOf q1
      obtain ⟨j, hj, rfl⟩ := nI_of (x := n) (eb_nneg h0)
      rw [nI_toInt hj] at h1
      rw [show (65536 : Int32) = nI 65536 by decide, pk_sub (by omega), nI_l (by omega), pk_lLT (by omega) hk] at q2
      rw [lN_i, nI_toInt hj, nI_toInt (by omega)]
      omega
theorem eb_sz3 (k : Int32) : 0 ≤ ((1 : Int32) <<< ((k &&& 3) &&& 31)).toInt ∧ ((1 : Int32) <<< ((k &&& 3) &&& 31)).toInt ≤ 65536 := by
  obtain ⟨j, hj, e⟩ := pk_andE k (m := 3) 2 (by decide)
  rw [e]
  rcases (show j = 0 ∨ j = 1 ∨ j = 2 ∨ j = 3 by omega) with rfl | rfl | rfl | rfl <;> decide
theorem eb_sz3s {k : Int32} (h : vp_in k 8) (h3 : ¬ (3 : Int32) < k) : 0 ≤ ((1 : Int32) <<< (k &&& 31)).toInt ∧ ((1 : Int32) <<< (k &&& 31)).toInt ≤ 65536 := by
  obtain ⟨j, hj, rfl⟩ := vp_in_of h (by decide)
  rw [show (3 : Int32) = nI 3 by decide, nI_ltI (by omega) (by omega)] at h3
  rcases (show j = 0 ∨ j = 1 ∨ j = 2 ∨ j = 3 by omega) with rfl | rfl | rfl | rfl <;> decide
theorem l_X10_inI {n : Int32} {a b : Nat} (ha : a < 2147483648) (hb : b < 2147483648) (h : m_X10_in n.toInt64 (lN a) (lN b) = true) : (a : Int) ≤ n.toInt ∧ n.toInt ≤ b := by
  unfold m_X10_in at h
  have e : n.toInt64.toInt = n.toInt := Int32.toInt_toInt64 n
  by_cases q1 : n.toInt64 < lN a
  · rw [if_pos q1] at h; exact absurd h (by decide)
  · rw [if_neg q1] at h
    by_cases q2 : lN b < n.toInt64
    · rw [if_pos q2] at h; exact absurd h (by decide)
    · rw [Int64.lt_iff_toInt_lt, e, pk_lT (by omega)] at q1 q2
      omega
theorem l_X10_isCsr {n : Int32} (h : m_X10_isCsr n = true) (h1 : ¬ n = 768) (h2 : ¬ n = 832) (h3 : ¬ n = 833) (h4 : ¬ n = 834) (h5 : ¬ n = 835) (h6 : ¬ n = 928) (h7 : ¬ n = 930) (h8 : ¬ n = 2818) (h9 : ¬ n = 3860) : vp_in (n - 944) 16 := by
  unfold m_X10_isCsr at h
  rw [if_neg h1] at h
  have h : (if eb_b (m_X10_in n.toInt64 832 835) = 0 then (if n = 928 then true else (if n = 930 then true else (if eb_b (m_X10_in n.toInt64 944 959) = 0 then (if n = 2818 then true else (if n = 3860 then true else false)) else true))) else true) = true := h
  by_cases q : eb_b (m_X10_in n.toInt64 832 835) = 0
  · rw [if_pos q, if_neg h6, if_neg h7] at h
    by_cases q2 : eb_b (m_X10_in n.toInt64 944 959) = 0
    · rw [if_pos q2, if_neg h8, if_neg h9] at h; exact absurd h (by decide)
    · have q3 := l_X10_inI (n := n) (a := 944) (b := 959) (by decide) (by decide) (eb_b_n0 q2)
      refine eb_in_csr ?_ ?_
      · rw [Int32.le_iff_toInt_le, show (944 : Int32).toInt = 944 by decide]; exact q3.1
      · rw [Int32.le_iff_toInt_le, show (959 : Int32).toInt = 959 by decide]; exact q3.2
  · have q3 := l_X10_inI (n := n) (a := 832) (b := 835) (by decide) (by decide) (eb_b_n0 q)
    have ne : ∀ k : Int32, ¬ n = k → ¬ n.toInt = k.toInt := fun k hk e => hk (Int32.toInt_inj.mp e)
    have a2 := ne _ h2
    have a3 := ne _ h3
    have a4 := ne _ h4
    have a5 := ne _ h5
    rw [show (832 : Int32).toInt = 832 by decide] at a2
    rw [show (833 : Int32).toInt = 833 by decide] at a3
    rw [show (834 : Int32).toInt = 834 by decide] at a4
    rw [show (835 : Int32).toInt = 835 by decide] at a5
    omega
theorem eb_in_succ15 {v : Int32} (h : vp_in v 16) (h2 : ¬ (15 : Int32) ≤ v) : vp_in (v + 1) 16 := by
  obtain ⟨h0, h1⟩ := vp_in_iff.mp h
  have e1 : (1 : Int32).toInt = 1 := by decide
  have e : (v + 1).toInt = v.toInt + 1 := by rw [eb_addI (by rw [e1]; omega) (by rw [e1]; omega), e1]
  rw [Int32.le_iff_toInt_le, show (15 : Int32).toInt = 15 by decide] at h2
  exact vp_in_iff.mpr ⟨by omega, by omega⟩
theorem eb_and54 (v : Int64) : 0 ≤ (v &&& 18014398509481983).toInt ∧ (v &&& 18014398509481983).toInt < 18014398509481984 := by
  have e : v &&& 18014398509481983 = lN (v.toBitVec.toNat % 18014398509481984) := by
    apply Int64.toBitVec_inj.mp
    apply BitVec.eq_of_toNat_eq
    show (v.toBitVec &&& 18014398509481983#64).toNat = (BitVec.ofNat 64 (v.toBitVec.toNat % 18014398509481984)).toNat
    rw [BitVec.toNat_and, BitVec.toNat_ofNat, BitVec.toNat_ofNat, show 18014398509481983 % 2 ^ 64 = 2 ^ 54 - 1 by decide, Nat.and_two_pow_sub_one_eq_mod]
    omega
  rw [e, pk_lT (by omega)]
  omega
theorem eb_eye {b s w x : Int32} (hb : 0 ≤ b.toInt ∧ 0 ≤ s.toInt ∧ b.toInt + s.toInt ≤ 65536) (hw : (35 : Int32) ≤ w) (e : x = w - 35) (h : x < s / 8) : 0 ≤ (b + 8 * x).toInt ∧ (b + 8 * x).toInt + (8 : Int32).toInt ≤ 65536 := by
  have h1 := Int32.le_iff_toInt_le.mp hw
  have e35 : (35 : Int32).toInt = 35 := by decide
  have e8 : (8 : Int32).toInt = 8 := by decide
  have hm := eb_max w
  have ex : x.toInt = w.toInt - 35 := by rw [e, eb_subI (by rw [e35]; omega) (by rw [e35]; omega), e35]
  have hs : 0 ≤ s := by rw [Int32.le_iff_toInt_le, show (0 : Int32).toInt = 0 by decide]; exact hb.2.1
  have h2 := Int32.lt_iff_toInt_lt.mp h
  rw [eb_div8 hs] at h2
  have em : (8 * x).toInt = 8 * x.toInt := by rw [eb_mulI (by rw [e8]; omega) (by rw [e8]; omega), e8]
  have ea : (b + 8 * x).toInt = b.toInt + 8 * x.toInt := by rw [eb_addI (by rw [em]; omega) (by rw [em]; omega), em]
  rw [ea, e8]
  omega
theorem eb_nlt_of_le {a b : Int32} (h : a ≤ b) : ¬ b < a := by
  rw [Int32.lt_iff_toInt_lt]; have := Int32.le_iff_toInt_le.mp h; omega
