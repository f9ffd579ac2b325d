/-! the bytes that a protection entry has: both sides' reckonings -/
theorem yl_lN (n : Nat) {i : Nat} (hi : i < 64) : yl (lN n) i = n.testBit i := by
  show (BitVec.ofNat 64 n).getLsbD i = _
  rw [BitVec.getLsbD_ofNat, decide_eq_true hi, Bool.true_and]
theorem yb_nI (n : Nat) {i : Nat} (hi : i < 32) : yb (nI n) i = n.testBit i := by
  show (BitVec.ofNat 32 n).getLsbD i = _
  rw [BitVec.getLsbD_ofNat, decide_eq_true hi, Bool.true_and]
theorem y_andL (a b : Nat) : lN a &&& lN b = lN (a &&& b) := yl_ext fun i hi => by rw [yl_and, yl_lN _ hi, yl_lN _ hi, yl_lN _ hi, Nat.testBit_and]
theorem y_orL (a b : Nat) : lN a ||| lN b = lN (a ||| b) := yl_ext fun i hi => by rw [yl_or, yl_lN _ hi, yl_lN _ hi, yl_lN _ hi, Nat.testBit_or]
theorem y_xorL (a b : Nat) : lN a ^^^ lN b = lN (a ^^^ b) := yl_ext fun i hi => by rw [yl_xor, yl_lN _ hi, yl_lN _ hi, yl_lN _ hi, Nat.testBit_xor]
theorem y_maskL (n k : Nat) : lN n &&& lN (2 ^ k - 1) = lN (n % 2 ^ k) := by rw [y_andL, Nat.and_two_pow_sub_one_eq_mod]
theorem y_orI (a b : Nat) : nI a ||| nI b = nI (a ||| b) := yb_ext fun i hi => by rw [yb_or, yb_nI _ hi, yb_nI _ hi, yb_nI _ hi, Nat.testBit_or]
theorem y_lI (x : Int64) (h : 0 ≤ x.toInt) : ∃ k : Nat, k < 2 ^ 63 ∧ x = lN k ∧ x.toInt = k := by
  obtain ⟨k, hk, e⟩ := pk_lOf (x := x) (by rw [Int64.lt_iff_toInt_lt, show (0 : Int64).toInt = 0 by decide]; omega)
  exact ⟨k, hk, e, by rw [e, pk_lT hk]⟩
theorem y_ones : ∀ a : Nat, ∃ t q, a + 1 = 2 ^ (t + 1) * q + 2 ^ t := by
  intro a
  induction a using Nat.strongRecOn with
  | ind a ih =>
    rcases Nat.mod_two_eq_zero_or_one a with h | h
    · refine ⟨0, a / 2, ?_⟩
      rw [show (2 : Nat) ^ (0 + 1) = 2 by decide, show (2 : Nat) ^ 0 = 1 by decide]; omega
    · obtain ⟨t, q, e⟩ := ih (a / 2) (by omega)
      refine ⟨t + 1, q, ?_⟩
      rw [show a + 1 = 2 * (a / 2 + 1) by omega, e, Nat.mul_add, ← Nat.mul_assoc, ← Nat.pow_succ', ← Nat.pow_succ']
theorem y_half {l : Nat} (h : l < 2 ^ 62) : eb_lshr (lN l) 1 = lN (l / 2) := by
  apply Int64.toInt_inj.mp
  rw [eb_lshr1, pk_lT (by omega), pk_lT (by omega)]; omega
theorem y_in : ∀ (t q l n p : Nat), l + 1 = 2 ^ (t + 1) * q + 2 ^ t → l < 2 ^ 62 → t < n → m_X10_spans_in n (lN p) (lN l) = lN (p * 2 ^ t) := by
  intro t
  induction t with
  | zero =>
    intro q l n p h hl hn
    obtain ⟨m, rfl⟩ : ∃ m, n = m + 1 := ⟨n - 1, by omega⟩
    rw [show (2 : Nat) ^ (0 + 1) = 2 by decide, show (2 : Nat) ^ 0 = 1 by decide] at h
    rw [m_X10_spans_in, show (lN l &&& 1) = lN (l % 2 ^ 1) from y_maskL l 1, if_neg (show ¬ lN (l % 2 ^ 1) = (1 : Int64) from fun z => by
      have z2 : lN (l % 2 ^ 1) = lN 1 := z
      rw [pk_lEQ (by omega) (by omega)] at z2; omega)]
    rw [show p * 2 ^ 0 = p by omega]
  | succ t ih =>
    intro q l n p h hl hn
    obtain ⟨m, rfl⟩ : ∃ m, n = m + 1 := ⟨n - 1, by omega⟩
    have e1 : 2 ^ (t + 1 + 1) * q = 2 * (2 ^ (t + 1) * q) := by rw [Nat.pow_succ' (n := t + 1), Nat.mul_assoc]
    have e2 : 2 ^ (t + 1) = 2 * 2 ^ t := Nat.pow_succ'
    have h2 : l / 2 + 1 = 2 ^ (t + 1) * q + 2 ^ t := by omega
    have h3 : l % 2 = 1 := by omega
    rw [m_X10_spans_in, show (lN l &&& 1) = lN (l % 2 ^ 1) from y_maskL l 1, if_pos (show lN (l % 2 ^ 1) = (1 : Int64) from by rw [show l % 2 ^ 1 = 1 from h3]; rfl), y_half hl, show lN p * 2 = lN (p * 2) from lN_mul p 2, ih q (l / 2) m (p * 2) h2 (by omega) (by omega)]
    congr 1
    rw [e2, Nat.mul_assoc]
theorem y_tlt (t : Nat) : t < 2 ^ t := Nat.lt_two_pow_self
theorem y_xor {a t q : Nat} (h : a + 1 = 2 ^ (t + 1) * q + 2 ^ t) : a ^^^ (a + 1) = 2 ^ (t + 1) - 1 := by
  have hp : 0 < 2 ^ t := Nat.two_pow_pos t
  have hp2 : 2 ^ (t + 1) = 2 * 2 ^ t := Nat.pow_succ'
  have ha : a = 2 ^ (t + 1) * q + (2 ^ t - 1) := by omega
  apply Nat.eq_of_testBit_eq
  intro j
  rw [Nat.testBit_xor, h, ha, Nat.testBit_two_pow_mul_add _ (by omega), Nat.testBit_two_pow_mul_add _ (by omega), Nat.testBit_two_pow_sub_one (t + 1) j]
  by_cases hj : j < t + 1
  · rw [if_pos hj, if_pos hj, Nat.testBit_two_pow_sub_one, Nat.testBit_two_pow, decide_eq_true hj]
    by_cases h2 : j < t
    · simp [h2, show ¬ t = j by omega]
    · simp [show t = j by omega]
  · rw [if_neg hj, if_neg hj, decide_eq_false hj]
    simp
theorem y_napot {a t q : Nat} (ha : a < 2 ^ 54) (h : a + 1 = 2 ^ (t + 1) * q + 2 ^ t) : (lN a ^^^ (lN a + 1)) = lN (2 ^ (t + 1) - 1) ∧ lN a &&& (lN (2 ^ (t + 1) - 1) ^^^ (-1)) = lN (2 ^ (t + 1) * q) := by
  have hp : 0 < 2 ^ t := Nat.two_pow_pos t
  have hp2 : 2 ^ (t + 1) = 2 * 2 ^ t := Nat.pow_succ'
  refine ⟨by rw [lN_1, y_xorL, y_xor h], ?_⟩
  apply yl_ext
  intro i hi
  rw [yl_and, yl_xor, yl_m1 _ hi, yl_lN _ hi, yl_lN _ hi, yl_lN _ hi, Nat.testBit_two_pow_sub_one, show a = 2 ^ (t + 1) * q + (2 ^ t - 1) by omega, Nat.testBit_two_pow_mul_add _ (by omega), Nat.testBit_two_pow_mul]
  by_cases hj : i < t + 1
  · simp [hj, show ¬ t + 1 ≤ i by omega]
  · simp [hj, show t + 1 ≤ i by omega]
def yfit (l h : Int32) (L H : Int64) : Prop := ((H.toInt ≤ L.toInt ∨ 65536 ≤ L.toInt) ∧ l.toInt = 0 ∧ h.toInt = 0) ∨ (0 ≤ L.toInt ∧ L.toInt < H.toInt ∧ L.toInt < 65536 ∧ l.toInt = L.toInt ∧ (H.toInt ≤ 65536 ∧ h.toInt = H.toInt ∨ 65536 < H.toInt ∧ h.toInt = 65536))
def ykd (b : Int32) : Int32 := (b >>> (3 &&& 31)) &&& 3
def yrl (b : Int32) (a pa : Int64) : Int64 := if ykd b = 1 then pa * 4 else if ykd b = 2 then a * 4 else if ykd b = 3 then (if a = 18014398509481983 then 0 else ((a * 4) / m_X10_spans_in (a.toInt.toNat + 1) 8 a) * m_X10_spans_in (a.toInt.toNat + 1) 8 a) else 0
def yrh (b : Int32) (a pa : Int64) : Int64 := if ykd b = 1 then a * 4 else if ykd b = 2 then a * 4 + 4 else if ykd b = 3 then (if a = 18014398509481983 then 9223372036854775807 else ((a * 4) / m_X10_spans_in (a.toInt.toNat + 1) 8 a) * m_X10_spans_in (a.toInt.toNat + 1) 8 a + m_X10_spans_in (a.toInt.toNat + 1) 8 a) else 0
theorem y_mo132 (c : eb_St) {i : Nat} (hi : i < 16) {v4 v6 : Int64} (h4 : 0 ≤ v4.toInt) : ∃ l h, m_X6_measureOut_132 c (nI i) v4 v6 = eb_pI (eb_pI c 6 i l) 7 i h ∧ ∀ L H : Int64, L.toInt = 4 * v4.toInt → (H.toInt = 4 * v6.toInt ∨ (65536 < H.toInt ∧ 16384 < v6.toInt)) → yfit l h L H := by
  have e0 : (0 : Int32).toInt = 0 := by decide
  have e16 : (16384 : Int64).toInt = 16384 := by decide
  have e65 : (65536 : Int32).toInt = 65536 := by decide
  have e4 : (4 : Int32).toInt = 4 := by decide
  unfold m_X6_measureOut_132 m_X6_measureOut_153 m_X6_measureOut_154
  rw [nI_clamp (by omega)]
  by_cases h1 : v6 ≤ v4
  · rw [if_pos h1]
    refine ⟨0, 0, by simp, fun L H hL hH => Or.inl ⟨?_, e0, e0⟩⟩
    rw [Int64.le_iff_toInt_le] at h1
    omega
  · rw [if_neg h1]
    rw [Int64.le_iff_toInt_le] at h1
    by_cases h2 : (16384 : Int64) ≤ v4
    · rw [if_pos h2]
      rw [Int64.le_iff_toInt_le, e16] at h2
      exact ⟨0, 0, by simp, fun L H hL hH => Or.inl ⟨by omega, e0, e0⟩⟩
    · rw [if_neg h2]
      rw [Int64.le_iff_toInt_le, e16] at h2
      have hm : (v4.toInt32 * 4).toInt = 4 * v4.toInt := by
        rw [eb_mulI, eb_l2i h4 (by omega), e4]
        · omega
        · rw [eb_l2i h4 (by omega), e4]; omega
        · rw [eb_l2i h4 (by omega), e4]; omega
      by_cases h3 : (16384 : Int64) ≤ v6
      · refine ⟨v4.toInt32 * 4, 65536, by simp [h3], fun L H hL hH => Or.inr ?_⟩
        rw [Int64.le_iff_toInt_le, e16] at h3
        rw [hm, e65]
        omega
      · refine ⟨v4.toInt32 * 4, v6.toInt32 * 4, by simp [h3], fun L H hL hH => Or.inr ?_⟩
        rw [Int64.le_iff_toInt_le, e16] at h3
        have hm6 : (v6.toInt32 * 4).toInt = 4 * v6.toInt := by
          rw [eb_mulI, eb_l2i (by omega) (by omega), e4]
          · omega
          · rw [eb_l2i (by omega) (by omega), e4]; omega
          · rw [eb_l2i (by omega) (by omega), e4]; omega
        rw [hm, hm6]
        omega
theorem y_mulL {x : Int64} (h0 : 0 ≤ x.toInt) (h1 : x.toInt < 18014398509481984) : (x * 4).toInt = 4 * x.toInt := by
  rw [Int64.toInt_mul, show (4 : Int64).toInt = 4 by decide, Int.bmod_eq_of_le (by omega) (by omega)]
  omega
theorem y_kd8 (b : Int32) : ((b &&& 24) = 8 ↔ ykd b = 1) ∧ ((b &&& 24) = 16 ↔ ykd b = 2) ∧ ((b &&& 24) = 24 ↔ ykd b = 3) := by
  have h1 : b &&& 24 = nI (8 * ((b.toBitVec.toNat / 8) % 4)) := by
    apply yb_ext
    intro i hi
    rw [yb_and, yb_nI _ hi, show (8 : Nat) = 2 ^ 3 from rfl, Nat.testBit_two_pow_mul, show (4 : Nat) = 2 ^ 2 from rfl, Nat.testBit_mod_two_pow, Nat.testBit_div_two_pow, show yb b i = b.toBitVec.toNat.testBit i from rfl]
    have h2 : yb 24 i = decide (3 ≤ i ∧ i < 5) := (by decide +kernel : ∀ i, i < 32 → yb 24 i = decide (3 ≤ i ∧ i < 5)) i hi
    rw [h2]
    by_cases h3 : 3 ≤ i
    · by_cases h5 : i < 5
      · simp [h3, h5, show i - 3 < 2 by omega, show i - 3 + 3 = i by omega]
      · simp [h3, h5, show ¬ i - 3 < 2 by omega]
    · simp [h3]
  have h2 : ykd b = nI ((b.toBitVec.toNat / 8) % 4) := by
    unfold ykd
    apply yb_ext
    intro i hi
    rw [yb_and, show (3 : Int32) = nI 3 from rfl, yb_sshr 3 (by omega) _ hi, yb_nI _ hi, yb_nI _ hi, show (4 : Nat) = 2 ^ 2 from rfl, Nat.testBit_mod_two_pow, show (8 : Nat) = 2 ^ 3 from rfl, Nat.testBit_div_two_pow]
    have h3 : Nat.testBit 3 i = decide (i < 2) := Nat.testBit_two_pow_sub_one 2 i
    rw [h3]
    by_cases h5 : i < 2
    · rw [if_pos (show 3 + i < 32 by omega), Nat.add_comm i 3, show yb b (3 + i) = b.toBitVec.toNat.testBit (3 + i) from rfl, Bool.and_comm]
    · simp [h5]
  have hk : b.toBitVec.toNat / 8 % 4 < 4 := Nat.mod_lt _ (by decide)
  rw [h1, h2, show (8 : Int32) = nI 8 from rfl, show (16 : Int32) = nI 16 from rfl, show (24 : Int32) = nI 24 from rfl, show (1 : Int32) = nI 1 from rfl, show (2 : Int32) = nI 2 from rfl, show (3 : Int32) = nI 3 from rfl, nI_eq (by omega) (by omega), nI_eq (by omega) (by omega), nI_eq (by omega) (by omega), nI_eq (by omega) (by omega), nI_eq (by omega) (by omega), nI_eq (by omega) (by omega)]
  omega
def ypc (c : eb_St) (i : Nat) : Int64 := if i = 0 then 0 else c.2 5 (i - 1)
def yad (x : Int64) : Prop := 0 ≤ x.toInt ∧ x.toInt < 18014398509481984
theorem y_measureOut (c : eb_St) {i : Nat} (hi : i < 16) (ha : yad (c.2 5 i)) (hp : yad (ypc c i)) : ∃ l h, m_X6_measureOut c (nI i) = eb_pI (eb_pI c 6 i l) 7 i h ∧ yfit l h (yrl (c.1 4 i) (c.2 5 i) (ypc c i)) (yrh (c.1 4 i) (c.2 5 i) (ypc c i)) := by
  obtain ⟨k1, k2, k3⟩ := y_kd8 (c.1 4 i)
  have e0 : (0 : Int64).toInt = 0 := by decide
  have u : m_X6_measureOut c (nI i) = (if ((c.1 4 i) &&& 24) = 8 then m_X6_measureOut_132 c (nI i) (ypc c i) (c.2 5 i) else if ((c.1 4 i) &&& 24) = 16 then m_X6_measureOut_132 c (nI i) (c.2 5 i) (c.2 5 i + 1) else if ((c.1 4 i) &&& 24) = 24 then m_X6_measureOut_132 c (nI i) (c.2 5 i &&& ((c.2 5 i ^^^ (c.2 5 i + 1)) ^^^ (-1))) (((c.2 5 i &&& ((c.2 5 i ^^^ (c.2 5 i + 1)) ^^^ (-1))) + (c.2 5 i ^^^ (c.2 5 i + 1))) + 1) else m_X6_measureOut_132 c (nI i) 0 0) := by
    unfold m_X6_measureOut m_X6_measureOut_84
    rw [if_neg (nI_pos (by omega)), if_pos (show nI i < 16 from nI_lt (b := 16) hi (by omega)), nI_clamp (by omega)]
    dsimp only
    by_cases hz : i = 0
    · rw [if_pos (show nI i = 0 by rw [hz]; rfl)]
      unfold ypc
      rw [if_pos hz]
    · rw [if_neg (nI_ne0 (by omega) (by omega)), show nI i - 1 = nI (i - 1) from pk_sub (b := 1) (by omega), nI_clamp (by omega)]
      unfold ypc
      rw [if_neg hz]
  rw [u]
  unfold yrl yrh
  by_cases q1 : ((c.1 4 i) &&& 24) = 8
  · rw [if_pos q1, if_pos (k1.mp q1), if_pos (k1.mp q1)]
    obtain ⟨l, h, e, f⟩ := y_mo132 c hi (v4 := ypc c i) (v6 := c.2 5 i) hp.1
    exact ⟨l, h, e, f _ _ (y_mulL hp.1 hp.2) (Or.inl (y_mulL ha.1 ha.2))⟩
  · rw [if_neg q1, if_neg (fun z => q1 (k1.mpr z)), if_neg (fun z => q1 (k1.mpr z))]
    by_cases q2 : ((c.1 4 i) &&& 24) = 16
    · rw [if_pos q2, if_pos (k2.mp q2), if_pos (k2.mp q2)]
      obtain ⟨l, h, e, f⟩ := y_mo132 c hi (v4 := c.2 5 i) (v6 := c.2 5 i + 1) ha.1
      obtain ⟨a, hk, ea, ea2⟩ := y_lI _ ha.1
      have h2 := ha.2
      rw [ea2] at h2
      refine ⟨l, h, e, f _ _ (y_mulL ha.1 ha.2) (Or.inl ?_)⟩
      rw [ea, lN_1, show lN a * 4 = lN (a * 4) from lN_mul a 4, show lN (a * 4) + 4 = lN (a * 4 + 4) from lN_add _ 4, pk_lT (by omega), pk_lT (by omega)]
      omega
    · rw [if_neg q2, if_neg (fun z => q2 (k2.mpr z)), if_neg (fun z => q2 (k2.mpr z))]
      by_cases q3 : ((c.1 4 i) &&& 24) = 24
      · rw [if_pos q3, if_pos (k3.mp q3), if_pos (k3.mp q3)]
        obtain ⟨a, hk, ea, ea2⟩ := y_lI _ ha.1
        have h2 := ha.2
        rw [ea2] at h2
        obtain ⟨t, q, et⟩ := y_ones a
        obtain ⟨n1, n2⟩ := y_napot (a := a) (by omega) et
        rw [ea, n1, n2]
        have hpt : 2 ^ (t + 1) = 2 * 2 ^ t := Nat.pow_succ'
        have hp0 : 0 < 2 ^ t := Nat.two_pow_pos t
        have hle : 2 ^ (t + 1) * q ≤ a + 1 := by omega
        have hle2 : 2 ^ t ≤ a + 1 := by omega
        obtain ⟨l, h, e, f⟩ := y_mo132 c hi (v4 := lN (2 ^ (t + 1) * q)) (v6 := lN (2 ^ (t + 1) * q) + lN (2 ^ (t + 1) - 1) + 1) (by rw [pk_lT (by omega)]; omega)
        refine ⟨l, h, e, ?_⟩
        have e6 : (lN (2 ^ (t + 1) * q) + lN (2 ^ (t + 1) - 1) + 1).toInt = ((2 ^ (t + 1) * q + 2 ^ (t + 1) : Nat) : Int) := by
          rw [lN_add, lN_1, show 2 ^ (t + 1) * q + (2 ^ (t + 1) - 1) + 1 = 2 ^ (t + 1) * q + 2 ^ (t + 1) by omega, pk_lT (by omega)]
        have e4 : (lN (2 ^ (t + 1) * q)).toInt = ((2 ^ (t + 1) * q : Nat) : Int) := pk_lT (by omega)
        by_cases hall : lN a = 18014398509481983
        · rw [if_pos hall, if_pos hall]
          have ha3 : a = 18014398509481983 := (pk_lEQ (b := 18014398509481983) (by omega) (by omega)).mp hall
          have hq0 : q = 0 := by
            rcases Nat.eq_zero_or_pos q with z | z
            · exact z
            · exfalso
              have h54 : a + 1 = 2 ^ 54 := by omega
              have ht : t < 54 := by
                apply Nat.lt_of_not_le
                intro z2
                have := Nat.pow_le_pow_right (n := 2) (by decide) z2
                have h3 : 2 ^ (t + 1) * 1 ≤ 2 ^ (t + 1) * q := Nat.mul_le_mul_left _ z
                omega
              have hd : 2 ^ (t + 1) ∣ 2 ^ 54 := Nat.pow_dvd_pow 2 (by omega)
              rw [← h54, et] at hd
              have h4 : 2 ^ (t + 1) ∣ 2 ^ t := (Nat.dvd_add_right (Nat.dvd_mul_right _ _)).mp hd
              have h5 := Nat.le_of_dvd hp0 h4
              omega
          refine f _ _ ?_ (Or.inr ⟨by decide, ?_⟩)
          · rw [e4, hq0]; simp
          · rw [e6, hq0]
            have : 2 ^ t = a + 1 := by rw [et, hq0]; omega
            omega
        · rw [if_neg hall, if_neg hall]
          have hsp : m_X10_spans_in ((lN a).toInt.toNat + 1) 8 (lN a) = lN (8 * 2 ^ t) := by
            refine y_in t q a _ 8 et (by omega) ?_
            rw [pk_lT hk]
            have := y_tlt t
            omega
          have e84 : 8 * 2 ^ t = 4 * 2 ^ (t + 1) := by omega
          have hdiv : (a * 4) / (8 * 2 ^ t) = q := by
            have h7 : a * 4 = (8 * 2 ^ t) * q + (4 * 2 ^ t - 4) := by
              have : (8 * 2 ^ t) * q = 4 * (2 ^ (t + 1) * q) := by rw [e84, Nat.mul_assoc]
              omega
            rw [h7, Nat.mul_add_div (by omega), Nat.div_eq_of_lt (by omega)]
            omega
          have hlow : (lN a * 4) / lN (8 * 2 ^ t) * lN (8 * 2 ^ t) = lN (q * (8 * 2 ^ t)) := by
            rw [show lN a * 4 = lN (a * 4) from lN_mul a 4, pk_lDiv (by omega) (by omega) (by omega), hdiv, lN_mul]
          have hq8 : q * (8 * 2 ^ t) = 4 * (2 ^ (t + 1) * q) := by rw [e84, Nat.mul_comm, Nat.mul_assoc]
          rw [hsp, hlow, lN_add]
          refine f _ _ ?_ (Or.inl ?_)
          · rw [pk_lT (by omega), e4]; omega
          · rw [pk_lT (by omega), e6]; omega
      · rw [if_neg q3, if_neg (fun z => q3 (k3.mpr z)), if_neg (fun z => q3 (k3.mpr z))]
        obtain ⟨l, h, e, f⟩ := y_mo132 c hi (v4 := 0) (v6 := 0) (by decide)
        exact ⟨l, h, e, f 0 0 (by decide) (Or.inl (by decide))⟩
