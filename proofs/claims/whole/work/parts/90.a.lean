/-! bits of numbers, and of the two memories -/
def yb (x : Int32) (i : Nat) : Bool := x.toBitVec.getLsbD i
def yl (x : Int64) (i : Nat) : Bool := x.toBitVec.getLsbD i
theorem yb_ext {x y : Int32} (h : ∀ i, i < 32 → yb x i = yb y i) : x = y := Int32.toBitVec_inj.mp (BitVec.eq_of_getLsbD_eq (fun i hi => h i hi))
theorem yl_ext {x y : Int64} (h : ∀ i, i < 64 → yl x i = yl y i) : x = y := Int64.toBitVec_inj.mp (BitVec.eq_of_getLsbD_eq (fun i hi => h i hi))
theorem yb_or (x y : Int32) (i : Nat) : yb (x ||| y) i = (yb x i || yb y i) := by unfold yb; rw [Int32.toBitVec_or, BitVec.getLsbD_or]
theorem yb_and (x y : Int32) (i : Nat) : yb (x &&& y) i = (yb x i && yb y i) := by unfold yb; rw [Int32.toBitVec_and, BitVec.getLsbD_and]
theorem yl_or (x y : Int64) (i : Nat) : yl (x ||| y) i = (yl x i || yl y i) := by unfold yl; rw [Int64.toBitVec_or, BitVec.getLsbD_or]
theorem yl_and (x y : Int64) (i : Nat) : yl (x &&& y) i = (yl x i && yl y i) := by unfold yl; rw [Int64.toBitVec_and, BitVec.getLsbD_and]
theorem yl_xor (x y : Int64) (i : Nat) : yl (x ^^^ y) i = (yl x i ^^ yl y i) := by unfold yl; rw [Int64.toBitVec_xor, BitVec.getLsbD_xor]
theorem yb_big {x : Int32} {i : Nat} (h : 32 ≤ i) : yb x i = false := BitVec.getLsbD_of_ge _ _ h
theorem yl_big {x : Int64} {i : Nat} (h : 64 ≤ i) : yl x i = false := BitVec.getLsbD_of_ge _ _ h
theorem yl_m1 : ∀ i, i < 64 → yl (-1) i = true := by decide +kernel
theorem yl_0 (i : Nat) : yl 0 i = false := BitVec.getLsbD_zero
theorem yb_0 (i : Nat) : yb 0 i = false := BitVec.getLsbD_zero
theorem y_l : ∀ k, k < 64 → (((nI k).toInt64 &&& 63).toBitVec.smod 64).toNat = k := by decide +kernel
theorem y_u : ∀ k, k < 64 → (((nI k).toInt64.toUInt64 &&& Int64.toUInt64 63).toBitVec % 64).toNat = k := by decide +kernel
theorem y_l32 : ∀ n, n < 32 → ((nI n &&& 31).toBitVec.smod 32).toNat = n := by decide +kernel
theorem y_u32 : ∀ n, n < 32 → (((nI n).toUInt32 &&& Int32.toUInt32 31).toBitVec % 32).toNat = n := by decide +kernel
theorem yl_shl (k : Nat) (hk : k < 64) (x : Int64) {i : Nat} (hi : i < 64) : yl (eb_lshl x (nI k)) i = (decide (k ≤ i) && yl x (i - k)) := by
  unfold yl eb_lshl
  rw [Int64.toBitVec_shiftLeft]
  show (x.toBitVec <<< (((nI k).toInt64 &&& 63).toBitVec.smod 64).toNat).getLsbD i = _
  rw [y_l k hk, BitVec.getLsbD_shiftLeft]
  rcases Nat.lt_or_ge i k with h | h
  · simp [h, Nat.not_le.mpr h]
  · simp [hi, h, Nat.not_lt.mpr h]
theorem yl_ushr (k : Nat) (hk : k < 64) (x : Int64) (i : Nat) : yl (eb_lushr x (nI k)) i = yl x (k + i) := by
  show (x.toUInt64 >>> ((nI k).toInt64.toUInt64 &&& Int64.toUInt64 63)).toBitVec.getLsbD i = x.toUInt64.toBitVec.getLsbD (k + i)
  rw [UInt64.toBitVec_shiftRight]
  show (x.toUInt64.toBitVec >>> (((nI k).toInt64.toUInt64 &&& Int64.toUInt64 63).toBitVec % 64).toNat).getLsbD i = _
  rw [y_u k hk, BitVec.getLsbD_ushiftRight]
theorem yl_sshr (k : Nat) (hk : k < 64) (x : Int64) {i : Nat} (hi : i < 64) : yl (eb_lshr x (nI k)) i = if k + i < 64 then yl x (k + i) else yl x 63 := by
  unfold yl eb_lshr
  rw [Int64.toBitVec_shiftRight]
  show (x.toBitVec.sshiftRight (((nI k).toInt64 &&& 63).toBitVec.smod 64).toNat).getLsbD i = _
  rw [y_l k hk, BitVec.getLsbD_sshiftRight, BitVec.msb_eq_getLsbD_last]
  simp [hi]
theorem yb_shl (n : Nat) (hn : n < 32) (x : Int32) {i : Nat} (hi : i < 32) : yb (x <<< (nI n &&& 31)) i = (decide (n ≤ i) && yb x (i - n)) := by
  unfold yb
  rw [Int32.toBitVec_shiftLeft]
  show (x.toBitVec <<< ((nI n &&& 31).toBitVec.smod 32).toNat).getLsbD i = _
  rw [y_l32 n hn, BitVec.getLsbD_shiftLeft]
  rcases Nat.lt_or_ge i n with h | h
  · simp [h, Nat.not_le.mpr h]
  · simp [hi, h, Nat.not_lt.mpr h]
theorem yb_ushr (n : Nat) (hn : n < 32) (x : Int32) (i : Nat) : yb (eb_iushr x (nI n)) i = yb x (n + i) := by
  show (x.toUInt32 >>> ((nI n).toUInt32 &&& Int32.toUInt32 31)).toBitVec.getLsbD i = x.toUInt32.toBitVec.getLsbD (n + i)
  rw [UInt32.toBitVec_shiftRight]
  show (x.toUInt32.toBitVec >>> (((nI n).toUInt32 &&& Int32.toUInt32 31).toBitVec % 32).toNat).getLsbD i = _
  rw [y_u32 n hn, BitVec.getLsbD_ushiftRight]
theorem yb_sshr (n : Nat) (hn : n < 32) (x : Int32) {i : Nat} (hi : i < 32) : yb (x >>> (nI n &&& 31)) i = if n + i < 32 then yb x (n + i) else yb x 31 := by
  unfold yb
  rw [Int32.toBitVec_shiftRight]
  show (x.toBitVec.sshiftRight ((nI n &&& 31).toBitVec.smod 32).toNat).getLsbD i = _
  rw [y_l32 n hn, BitVec.getLsbD_sshiftRight, BitVec.msb_eq_getLsbD_last]
  simp [hi]
theorem yl_wide (x : Int32) {i : Nat} (hi : i < 64) : yl x.toInt64 i = if i < 32 then yb x i else yb x 31 := by
  unfold yl yb
  rw [Int32.toBitVec_toInt64, BitVec.getLsbD_signExtend, BitVec.msb_eq_getLsbD_last]
  simp [hi]
theorem yb_nar (x : Int64) {i : Nat} (hi : i < 32) : yb x.toInt32 i = yl x i := by
  unfold yl yb
  rw [Int64.toBitVec_toInt32, BitVec.getLsbD_signExtend]
  simp [hi, show i < 64 by omega]
theorem yb_byte (x : Int32) {i : Nat} (hi : i < 8) : yb x.toInt8.toInt32 i = yb x i := by
  unfold yb
  rw [Int8.toBitVec_toInt32, Int32.toBitVec_toInt8, BitVec.getLsbD_signExtend, BitVec.getLsbD_signExtend]
  simp [hi, show i < 32 by omega]
theorem yb_nb (x : Int32) {i : Nat} (hi : i < 8) : yb (vp_nar .byte x) i = yb x i := by
  rw [vp_nar_byte]
  exact yb_byte x hi
theorem yb_255 (i : Nat) : yb 255 i = decide (i < 8) := by
  rcases Nat.lt_or_ge i 32 with h | h
  · exact (by decide +kernel : ∀ i, i < 32 → yb 255 i = decide (i < 8)) i h
  · rw [yb_big h, decide_eq_false (by omega)]
theorem yl_b255 (x : Int32) {i : Nat} (hi : i < 64) : yl ((x &&& 255).toInt64) i = (decide (i < 8) && yb x i) := by
  rw [yl_wide _ hi]
  rcases Nat.lt_or_ge i 32 with h | h
  · rw [if_pos h, yb_and, yb_255, Bool.and_comm]
  · rw [if_neg (by omega), yb_and, yb_255, decide_eq_false (by omega : ¬ i < 8)]
    simp
def cB (c : eb_St) (p : Nat) : Bool := yl (c.2 2 (p / 64)) (p % 64)
def rB (r : eb_St) (p : Nat) : Bool := yb (r.1 1 (p / 8)) (p % 8)
def y_sz (z : Nat) : Prop := z = 1 ∨ z = 2 ∨ z = 4 ∨ z = 8
theorem y_mask {z : Nat} (hz : y_sz z) {i : Nat} (hi : i < 64) : yl (m_X4_mask (nI z)) i = decide (i < 8 * z) := by
  rcases hz with rfl | rfl | rfl | rfl
  · exact (by decide +kernel : ∀ i, i < 64 → yl (m_X4_mask (nI 1)) i = decide (i < 8 * 1)) i hi
  · exact (by decide +kernel : ∀ i, i < 64 → yl (m_X4_mask (nI 2)) i = decide (i < 8 * 2)) i hi
  · exact (by decide +kernel : ∀ i, i < 64 → yl (m_X4_mask (nI 4)) i = decide (i < 8 * 4)) i hi
  · exact (by decide +kernel : ∀ i, i < 64 → yl (m_X4_mask (nI 8)) i = decide (i < 8 * 8)) i hi
theorem y_shift {a : Nat} (h : a < 65536) : m_X4_shift (nI a) = nI (8 * (a % 8)) := by
  unfold m_X4_shift
  rw [pk_andN (n := a) (by omega) (m := 7) 3 (by decide)]
  exact (by decide +kernel : ∀ b, b < 8 → nI b <<< ((3 : Int32) &&& 31) = nI (8 * b)) (a % 2 ^ 3) (Nat.mod_lt _ (by decide))
theorem y_word {a : Nat} (h : a < 65536) : ((eb_iushr (nI a) 3) &&& 8191).toNatClampNeg = a / 8 := by
  have e : eb_iushr (nI a) 3 = nI (a / 2 ^ 3) := pk_ushrN (by omega) 3 3 (by decide)
  rw [e, pk_andN (by omega) (m := 8191) 13 (by decide), nI_clamp (by omega)]
  omega
theorem y_load {c : eb_St} {a z : Nat} (ha : a + z ≤ 65536) (hz : y_sz z) (hal : a % z = 0) {i : Nat} (hi : i < 64) : yl (m_X4_load c (nI a) (nI z)) i = (decide (i < 8 * z) && cB c (8 * a + i)) := by
  have h1 : a < 65536 := by rcases hz with h | h | h | h <;> omega
  show yl ((eb_lushr (c.2 2 ((eb_iushr (nI a) 3) &&& 8191).toNatClampNeg) (m_X4_shift (nI a))) &&& m_X4_mask (nI z)) i = _
  rw [y_word h1, y_shift h1, yl_and, yl_ushr _ (by omega), y_mask hz hi]
  rcases Nat.lt_or_ge i (8 * z) with h | h
  · have h2 : 8 * (a % 8) + i < 64 := by rcases hz with rfl | rfl | rfl | rfl <;> omega
    have e1 : (8 * a + i) / 64 = a / 8 := by omega
    have e2 : (8 * a + i) % 64 = 8 * (a % 8) + i := by omega
    unfold cB
    rw [e1, e2, Bool.and_comm]
  · rw [decide_eq_false (by omega : ¬ i < 8 * z)]
    simp
theorem y_store_eq (c : eb_St) (a z : Int32) (v : Int64) : m_X4_store c a z v = eb_pJ c 2 ((eb_iushr a 3) &&& 8191).toNatClampNeg (((c.2 2 ((eb_iushr a 3) &&& 8191).toNatClampNeg) &&& (eb_lshl (m_X4_mask z) (m_X4_shift a) ^^^ (-1))) ||| ((eb_lshl v (m_X4_shift a)) &&& eb_lshl (m_X4_mask z) (m_X4_shift a))) := rfl
theorem y_store {c : eb_St} {a z : Nat} {v : Int64} (ha : a + z ≤ 65536) (hz : y_sz z) (hal : a % z = 0) (p : Nat) : cB (m_X4_store c (nI a) (nI z) v) p = if 8 * a ≤ p ∧ p < 8 * a + 8 * z then yl v (p - 8 * a) else cB c p := by
  have h1 : a < 65536 := by rcases hz with h | h | h | h <;> omega
  rw [y_store_eq, y_word h1, y_shift h1]
  unfold cB
  by_cases hq : p / 64 = a / 8
  · have e0 : (eb_pJ c 2 (a / 8) ((c.2 2 (a / 8) &&& (eb_lshl (m_X4_mask (nI z)) (nI (8 * (a % 8))) ^^^ (-1))) ||| (eb_lshl v (nI (8 * (a % 8))) &&& eb_lshl (m_X4_mask (nI z)) (nI (8 * (a % 8)))))).2 2 (p / 64) = ((c.2 2 (a / 8) &&& (eb_lshl (m_X4_mask (nI z)) (nI (8 * (a % 8))) ^^^ (-1))) ||| (eb_lshl v (nI (8 * (a % 8))) &&& eb_lshl (m_X4_mask (nI z)) (nI (8 * (a % 8))))) := by
      simp [eb_pJ, hq]
    have hi : p % 64 < 64 := Nat.mod_lt _ (by decide)
    have hk : 8 * (a % 8) < 64 := by omega
    rw [e0, yl_or, yl_and, yl_and, yl_xor, yl_m1 _ hi, yl_shl _ hk _ hi, yl_shl _ hk _ hi, hq]
    rcases Nat.lt_or_ge (p % 64) (8 * (a % 8)) with h | h
    · rw [decide_eq_false (by omega : ¬ 8 * (a % 8) ≤ p % 64), if_neg (by omega)]
      simp
    · rw [decide_eq_true h, y_mask hz (by omega)]
      rcases Nat.lt_or_ge (p % 64 - 8 * (a % 8)) (8 * z) with h2 | h2
      · rw [decide_eq_true h2, if_pos (by omega), show p % 64 - 8 * (a % 8) = p - 8 * a by omega]
        simp
      · rw [decide_eq_false (by omega : ¬ p % 64 - 8 * (a % 8) < 8 * z), if_neg (by omega)]
        simp
  · have hn : ¬ (8 * a ≤ p ∧ p < 8 * a + 8 * z) := by rcases hz with rfl | rfl | rfl | rfl <;> omega
    rw [if_neg hn]
    simp [eb_pJ, hq]
theorem y_take_7 {r : eb_St} {a : Nat} : ∀ (j : Nat) (v : Int64), a + j ≤ 65536 → j ≤ 8 → ∀ i, i < 64 → yl (m_X10_take_7 (j + 1) r (nI a) v (nI j - 1)) i = if i < 8 * j then rB r (8 * a + i) else yl v (i - 8 * j) := by
  intro j
  induction j with
  | zero =>
    intro v _ _ i _
    have e : m_X10_take_7 (0 + 1) r (nI a) v (nI 0 - 1) = v := by
      rw [m_X10_take_7, if_pos (by decide)]
    rw [e, if_neg (by omega)]
    rfl
  | succ j ih =>
    intro v ha hj i hi
    rw [m_X10_take_7, nI_pred, if_neg (nI_pos (by omega))]
    show yl (m_X10_take_7 (j + 1) r (nI a) ((eb_lshl v 8) ||| (((r.1 1 (nI a + nI j).toNatClampNeg) &&& 255).toInt64)) (nI j + (-1))) i = _
    rw [show nI j + (-1) = nI j - 1 from (Int32.sub_eq_add_neg _ _).symm, ih _ (by omega) (by omega) i hi, nI_add, nI_clamp (by omega)]
    rcases Nat.lt_or_ge i (8 * j) with h | h
    · rw [if_pos h, if_pos (by omega)]
    · rw [if_neg (by omega), yl_or, show (8 : Int32) = nI 8 from rfl, yl_shl 8 (by omega) _ (by omega), yl_b255 _ (by omega)]
      rcases Nat.lt_or_ge (i - 8 * j) 8 with h2 | h2
      · rw [if_pos (by omega), decide_eq_false (by omega : ¬ 8 ≤ i - 8 * j), decide_eq_true h2]
        unfold rB
        rw [show (8 * a + i) / 8 = a + j by omega, show (8 * a + i) % 8 = i - 8 * j by omega]
        simp
      · rw [if_neg (by omega), decide_eq_true h2, decide_eq_false (by omega : ¬ i - 8 * j < 8), show i - 8 * j - 8 = i - 8 * (j + 1) by omega]
        simp
theorem y_take {r : eb_St} {a z : Nat} (ha : a + z ≤ 65536) (hz : y_sz z) {i : Nat} (hi : i < 64) : yl (m_X10_take r (nI a) (nI z)) i = (decide (i < 8 * z) && rB r (8 * a + i)) := by
  have e : m_X10_take r (nI a) (nI z) = m_X10_take_7 (z + 1) r (nI a) 0 (nI z - 1) := by
    show m_X10_take_7 (((nI z - 1).toInt + 1).toNat + 1) r (nI a) 0 (nI z - 1) = _
    congr 1
    rcases hz with rfl | rfl | rfl | rfl <;> decide
  rw [e, y_take_7 z 0 ha (by rcases hz with rfl | rfl | rfl | rfl <;> decide) i hi]
  rcases Nat.lt_or_ge i (8 * z) with h | h
  · rw [if_pos h, decide_eq_true h]; simp
  · rw [if_neg (by omega), yl_0, decide_eq_false (by omega : ¬ i < 8 * z)]; simp
/-- the reference's memory has changed alone -/
def rF (r r' : eb_St) : Prop := r'.2 = r.2 ∧ ∀ q b, ¬ q = 1 → r'.1 q b = r.1 q b
def cF (c c' : eb_St) : Prop := c'.1 = c.1 ∧ ∀ q b, ¬ q = 2 → c'.2 q b = c.2 q b
theorem rF_0 (r : eb_St) : rF r r := ⟨rfl, fun _ _ _ => rfl⟩
theorem cF_0 (r : eb_St) : cF r r := ⟨rfl, fun _ _ _ => rfl⟩
theorem rF_t {a b c : eb_St} (h : rF a b) (h2 : rF b c) : rF a c := ⟨h2.1.trans h.1, fun q k n => (h2.2 q k n).trans (h.2 q k n)⟩
theorem cF_t {a b c : eb_St} (h : cF a b) (h2 : cF b c) : cF a c := ⟨h2.1.trans h.1, fun q k n => (h2.2 q k n).trans (h.2 q k n)⟩
theorem rF_p (r : eb_St) (j : Nat) (v : Int32) : rF r (eb_pI r 1 j v) := ⟨rfl, fun q b h => by simp [eb_pI, h]⟩
theorem cF_p (r : eb_St) (j : Nat) (v : Int64) : cF r (eb_pJ r 2 j v) := ⟨rfl, fun q b h => by simp [eb_pJ, h]⟩
theorem cF_store (c : eb_St) (a z : Int32) (v : Int64) : cF c (m_X4_store c a z v) := cF_p _ _ _
theorem rB_p {r : eb_St} {j : Nat} {v : Int32} (p : Nat) : rB (eb_pI r 1 j v) p = if p / 8 = j then yb v (p % 8) else rB r p := by
  unfold rB
  by_cases h : p / 8 = j
  · rw [if_pos h]; simp [eb_pI, h]
  · rw [if_neg h]; simp [eb_pI, h]
theorem y_put_3 {a z : Nat} {v : Int64} (ha : a + z ≤ 65536) (hz : z ≤ 8) : ∀ (d k : Nat) (r : eb_St), k + d = z → rF r (m_X10_put_3 (d + 1) r (nI a) (nI z) v (nI k)) ∧ ∀ p, rB (m_X10_put_3 (d + 1) r (nI a) (nI z) v (nI k)) p = if 8 * (a + k) ≤ p ∧ p < 8 * (a + z) then yl v (p - 8 * a) else rB r p := by
  intro d
  induction d with
  | zero =>
    intro k r hk
    rw [m_X10_put_3, if_pos (nI_le (by omega) (by omega))]
    exact ⟨rF_0 r, fun p => (if_neg (by omega)).symm⟩
  | succ d ih =>
    intro k r hk
    rw [m_X10_put_3, if_neg (nI_ge (by omega) (by omega))]
    have h := ih (k + 1) (eb_pI r 1 (nI a + nI k).toNatClampNeg (vp_nar .byte ((eb_lshr v (8 * nI k)).toInt32.toInt8.toInt32))) (by omega)
    rw [nI_succ k] at h
    refine ⟨rF_t (rF_p _ _ _) h.1, fun p => (h.2 p).trans ?_⟩
    rw [rB_p, nI_add, nI_clamp (by omega)]
    by_cases hp : p / 8 = a + k
    · have hm : p % 8 < 8 := Nat.mod_lt _ (by decide)
      rw [if_neg (by omega), if_pos hp, if_pos (by omega), yb_nb _ hm, yb_byte _ hm, yb_nar _ (by omega), show (8 : Int32) * nI k = nI (8 * k) from pk_mul 8 k, yl_sshr _ (by omega) _ (by omega), if_pos (by omega), show 8 * k + p % 8 = p - 8 * a by omega]
    · rw [if_neg hp]
      by_cases h3 : 8 * (a + k) ≤ p ∧ p < 8 * (a + z)
      · rw [if_pos h3, if_pos (by omega)]
      · rw [if_neg h3, if_neg (by omega)]
theorem y_put {r : eb_St} {a z : Nat} {v : Int64} (ha : a + z ≤ 65536) (hz : y_sz z) : rF r (m_X10_put r (nI a) (nI z) v) ∧ ∀ p, rB (m_X10_put r (nI a) (nI z) v) p = if 8 * a ≤ p ∧ p < 8 * a + 8 * z then yl v (p - 8 * a) else rB r p := by
  have hz8 : z ≤ 8 := by rcases hz with rfl | rfl | rfl | rfl <;> decide
  have e : m_X10_put r (nI a) (nI z) v = m_X10_put_3 (z + 1) r (nI a) (nI z) v (nI 0) := by
    show m_X10_put_3 (((nI z).toInt - (0 : Int32).toInt).toNat + 1) r (nI a) (nI z) v 0 = _
    congr 1
    rcases hz with rfl | rfl | rfl | rfl <;> decide
  rw [e]
  have h := y_put_3 (v := v) ha hz8 z 0 r (by omega)
  refine ⟨h.1, fun p => (h.2 p).trans ?_⟩
  rw [show 8 * (a + 0) = 8 * a by omega, show 8 * (a + z) = 8 * a + 8 * z by omega]
def qM (c r : eb_St) : Prop := ∀ p, p < 524288 → cB c p = rB r p
theorem qM_load {c r : eb_St} (h : qM c r) {a z : Nat} (ha : a + z ≤ 65536) (hz : y_sz z) (hal : a % z = 0) : m_X4_load c (nI a) (nI z) = m_X10_take r (nI a) (nI z) := by
  apply yl_ext
  intro i hi
  rw [y_load ha hz hal hi, y_take ha hz hi]
  rcases Nat.lt_or_ge i (8 * z) with h2 | h2
  · rw [h _ (by omega)]
  · rw [decide_eq_false (by omega : ¬ i < 8 * z)]; simp
theorem qM_store {c r : eb_St} (h : qM c r) {a z : Nat} {v : Int64} (ha : a + z ≤ 65536) (hz : y_sz z) (hal : a % z = 0) : qM (m_X4_store c (nI a) (nI z) v) (m_X10_put r (nI a) (nI z) v) := by
  intro p hp
  rw [y_store ha hz hal, (y_put ha hz).2 p, h p hp]
