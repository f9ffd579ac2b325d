/-! the CSRs -/
theorem y_i6 (n : Int32) (k : Nat) (hk : k < 2147483648) : n = nI k ↔ n.toInt = k := by
  rw [← Int32.toInt_inj, nI_toInt (by omega)]
def ywr (N : Int) : Prop := N = 768 ∨ (832 ≤ N ∧ N ≤ 835) ∨ N = 928 ∨ N = 930 ∨ (944 ≤ N ∧ N ≤ 959)
theorem y_wr (n : Int32) : m_X1_isWritable n = true ↔ ywr n.toInt := by
  unfold m_X1_isWritable ywr
  rw [show (768 : Int32) = nI 768 from rfl, show (832 : Int32) = nI 832 from rfl, show (833 : Int32) = nI 833 from rfl, show (834 : Int32) = nI 834 from rfl, show (835 : Int32) = nI 835 from rfl, show (928 : Int32) = nI 928 from rfl, show (930 : Int32) = nI 930 from rfl]
  have l1 : n < 944 ↔ n.toInt < 944 := by rw [Int32.lt_iff_toInt_lt, show (944 : Int32).toInt = 944 by decide]
  have l2 : (959 : Int32) < n ↔ 959 < n.toInt := by rw [Int32.lt_iff_toInt_lt, show (959 : Int32).toInt = 959 by decide]
  simp only [y_i6 n 768 (by omega), y_i6 n 832 (by omega), y_i6 n 833 (by omega), y_i6 n 834 (by omega), y_i6 n 835 (by omega), y_i6 n 928 (by omega), y_i6 n 930 (by omega), l1, l2]
  generalize n.toInt = N
  repeat' split
  all_goals first | (simp; omega) | (simp only [true_iff]; omega)
theorem y_th (n : Int32) : m_X1_isThere n = true ↔ (ywr n.toInt ∨ n.toInt = 2818 ∨ n.toInt = 3860) := by
  unfold m_X1_isThere
  dsimp only
  have h := y_wr n
  rw [show (2818 : Int32) = nI 2818 from rfl, show (3860 : Int32) = nI 3860 from rfl]
  simp only [y_i6 n 2818 (by omega), y_i6 n 3860 (by omega)]
  cases hw : m_X1_isWritable n with
  | false =>
    rw [hw] at h
    have h2 : ¬ ywr n.toInt := fun z => absurd (h.mpr z) (by decide)
    rw [if_pos (by decide)]
    by_cases q : n.toInt = 2818
    · rw [if_pos (by omega)]; simp [q]
    · rw [if_neg (by omega)]
      by_cases q2 : n.toInt = 3860
      · rw [if_pos (by omega)]; simp [q2]
      · rw [if_neg (by omega)]; simp [h2, q, q2]
  | true =>
    rw [hw] at h
    rw [if_neg (by decide)]
    simp [h.mp rfl]
theorem y_inI (n : Int32) (a b : Nat) (ha : a < 2147483648) (hb : b < 2147483648) : m_X10_in n.toInt64 (lN a) (lN b) = decide ((a : Int) ≤ n.toInt ∧ n.toInt ≤ b) := by
  unfold m_X10_in
  by_cases h1 : n.toInt64 < lN a
  · rw [if_pos h1]
    rw [Int64.lt_iff_toInt_lt, Int32.toInt_toInt64, pk_lT (by omega)] at h1
    exact (decide_eq_false (by omega)).symm
  · rw [if_neg h1]
    rw [Int64.lt_iff_toInt_lt, Int32.toInt_toInt64, pk_lT (by omega)] at h1
    by_cases h2 : lN b < n.toInt64
    · rw [if_pos h2]
      rw [Int64.lt_iff_toInt_lt, Int32.toInt_toInt64, pk_lT (by omega)] at h2
      exact (decide_eq_false (by omega)).symm
    · rw [if_neg h2]
      rw [Int64.lt_iff_toInt_lt, Int32.toInt_toInt64, pk_lT (by omega)] at h2
      exact (decide_eq_true (by omega)).symm
theorem y_ic (n : Int32) : m_X10_isCsr n = true ↔ (ywr n.toInt ∨ n.toInt = 2818 ∨ n.toInt = 3860) := by
  unfold m_X10_isCsr ywr
  dsimp only
  rw [show (832 : Int64) = lN 832 from rfl, show (835 : Int64) = lN 835 from rfl, show (944 : Int64) = lN 944 from rfl, show (959 : Int64) = lN 959 from rfl, y_inI n 832 835 (by omega) (by omega), y_inI n 944 959 (by omega) (by omega), show (768 : Int32) = nI 768 from rfl, show (928 : Int32) = nI 928 from rfl, show (930 : Int32) = nI 930 from rfl, show (2818 : Int32) = nI 2818 from rfl, show (3860 : Int32) = nI 3860 from rfl]
  have hb : ∀ p : Prop, ∀ [Decidable p], (eb_b (decide p) = 0) = ¬ p := fun p _ => by
    by_cases h : p
    · simp [h, eb_b]
    · simp [h, eb_b]
  simp only [y_i6 n 768 (by omega), y_i6 n 928 (by omega), y_i6 n 930 (by omega), y_i6 n 2818 (by omega), y_i6 n 3860 (by omega), hb]
  generalize n.toInt = N
  repeat' split
  all_goals first | (simp; omega) | (simp only [true_iff]; omega)
theorem y_rc {c r : eb_St} {f : Nat} (hB : ∀ i, i < 16 → c.1 4 i = m_X10_byteOf r (nI i)) : ∀ (j m : Nat) (v : Int64), f + j ≤ 16 → m_X6_readConfigs_13 (m + j + 1) c (nI f) v (nI (f + j) - 1) = m_X10_bytes_6 (j + 1) r (nI f) v (nI j - 1) := by
  intro j
  induction j with
  | zero =>
    intro m v h
    have e1 : nI (f + 0) - 1 < nI f := by
      rw [Int32.lt_iff_toInt_lt, show f + 0 = f by omega, eb_subI, nI_toInt (by omega), show (1 : Int32).toInt = 1 by decide]
      · omega
      · rw [nI_toInt (by omega), show (1 : Int32).toInt = 1 by decide]; omega
      · rw [nI_toInt (by omega), show (1 : Int32).toInt = 1 by decide]; omega
    rw [m_X6_readConfigs_13, if_pos e1, m_X10_bytes_6, if_pos (by decide)]
  | succ j ih =>
    intro m v h
    rw [show m + (j + 1) + 1 = (m + j + 1) + 1 by omega, m_X6_readConfigs_13, show f + (j + 1) = (f + j) + 1 by omega, nI_pred, if_neg (nI_nlt (by omega) (by omega)), if_neg (nI_pos (by omega)), m_X10_bytes_6, nI_pred, if_neg (nI_pos (by omega)), nI_clamp (by omega), nI_add, hB (f + j) (by omega)]
    dsimp only
    rw [show nI (f + j) + (-1) = nI (f + j) - 1 from (Int32.sub_eq_add_neg _ _).symm, show nI j + (-1) = nI j - 1 from (Int32.sub_eq_add_neg _ _).symm]
    exact ih m _ (by omega)
theorem y_rc0 {c r : eb_St} (hB : ∀ i, i < 16 → c.1 4 i = m_X10_byteOf r (nI i)) : m_X6_readConfigs c 0 = m_X10_bytes r 0 := y_rc (f := 0) hB 8 0 0 (by omega)
theorem y_rc8 {c r : eb_St} (hB : ∀ i, i < 16 → c.1 4 i = m_X10_byteOf r (nI i)) : m_X6_readConfigs c 8 = m_X10_bytes r 8 := y_rc (f := 8) hB 8 8 0 (by omega)
theorem y_read {n t : Nat} {v : Int64} {c r : eb_St} (h : Q n t 0 v c r) {k : Int32} (hk : ywr k.toInt ∨ k.toInt = 2818 ∨ k.toInt = 3860) : m_X1_read c k = m_X10_has r k := by
  have hB := fun i hi => (Q_B h (i := i) hi).1
  have hA := fun i hi => (Q_B h (i := i) hi).2
  obtain ⟨s1, s2, s3, s4, s5, s6, s7, s8, s9, s10, s11, s12, s13, s14, s15, s16, s17, s18, s19, s20, s21, s22⟩ := h.1.2.2.2.1
  unfold m_X1_read m_X10_has
  by_cases k1 : k = 768
  · rw [if_pos k1, if_pos k1]
    unfold m_X1_mstatus
    rw [s12]
    rcases s13 with z | z
    · rw [z]; rfl
    · rw [z]; rfl
  rw [if_neg k1, if_neg k1]
  by_cases k2 : k = 832
  · rw [if_pos k2, if_pos k2]; exact s14
  rw [if_neg k2, if_neg k2]
  by_cases k3 : k = 833
  · rw [if_pos k3, if_pos k3]; exact s15
  rw [if_neg k3, if_neg k3]
  by_cases k4 : k = 834
  · rw [if_pos k4, if_pos k4]; exact s16
  rw [if_neg k4, if_neg k4]
  by_cases k5 : k = 835
  · rw [if_pos k5, if_pos k5]; exact s17
  rw [if_neg k5, if_neg k5]
  by_cases k6 : k = 928
  · rw [if_pos k6, if_pos k6]; exact y_rc0 hB
  rw [if_neg k6, if_neg k6]
  by_cases k7 : k = 930
  · rw [if_pos k7, if_pos k7]; exact y_rc8 hB
  rw [if_neg k7, if_neg k7]
  by_cases k8 : k = 2818
  · rw [if_pos k8, if_pos k8, s5, Int32.add_zero]
  rw [if_neg k8, if_neg k8]
  by_cases k9 : k = 3860
  · rw [if_pos k9, k9]; rfl
  rw [if_neg k9]
  have g1 : ∀ m : Nat, m < 2147483648 → ¬ k = nI m → ¬ k.toInt = m := fun m hm q z => q ((y_i6 k m hm).mpr z)
  have n1 := g1 768 (by omega) k1
  have n2 := g1 832 (by omega) k2
  have n3 := g1 833 (by omega) k3
  have n4 := g1 834 (by omega) k4
  have n5 := g1 835 (by omega) k5
  have n6 := g1 928 (by omega) k6
  have n7 := g1 930 (by omega) k7
  have n8 := g1 2818 (by omega) k8
  have n9 := g1 3860 (by omega) k9
  have hr : 944 ≤ k.toInt ∧ k.toInt ≤ 959 := by unfold ywr at hk; omega
  obtain ⟨j, hj, rfl⟩ := nI_of (x := k) (by rw [Int32.lt_iff_toInt_lt, show (0 : Int32).toInt = 0 by decide]; omega)
  rw [nI_toInt hj] at hr
  rw [if_neg (show ¬ nI j < 944 from nI_nlt (b := 944) (by omega) (by omega)), if_neg (show ¬ (959 : Int32) < nI j from nI_nlt (a := 959) (by omega) (by omega)), show nI j - 944 = nI (j - 944) from pk_sub (b := 944) (by omega), nI_clamp (by omega)]
  exact hA (j - 944) (by omega)
/-- what a CSR's write leaves as it was -/
def yWf (c c' r r' : eb_St) : Prop := (∀ q b, q = 9 ∨ 19 ≤ q → c'.2 q b = c.2 q b) ∧ (∀ b, b = 8 ∨ 36 ≤ b → r'.1 0 b = r.1 0 b) ∧ (∀ b, r'.1 6 b = r.1 6 b) ∧ (∀ b, r'.2 3 b = r.2 3 b)
theorem Q_pmp {n t : Nat} {u : Int32} {v : Int64} {c c' r r' : eb_St} (h : Q n t u v c r) (hc : cG c c') (c4 : ∀ b, b < 8 → c'.1 4 b = c.1 4 b) (c5 : ∀ b, b < 8 → c'.2 5 b = c.2 5 b) (r1 : ∀ q b, ¬ q = 4 → ¬ (q = 0 ∧ b = 35) → r'.1 q b = r.1 q b) (r2 : ∀ q b, ¬ q = 5 → r'.2 q b = r.2 q b) (hf : r'.1 0 35 = 0) (hL : qL c') (hP : qP c' r') : Q n t u v c' r' := by
  obtain ⟨⟨m, x, e, s, ⟨i, g⟩, p, l⟩, T, F⟩ := h
  have c1 := hc.1
  have c2 := hc.2
  refine ⟨⟨qM_fr m (fun b => c2 _ _ (by omega)) (fun b => r1 _ _ (by omega) (by omega)), qX_fr x (fun q b hq => c2 _ _ (by omega)) (fun b => r1 _ _ (by omega) (by omega)) (fun q b _ => r2 _ _ (by omega)), qE_fr e (fun q b _ _ => c1 _ _ (by omega) (by omega) (by omega)) (fun q b _ _ => c2 _ _ (by omega)) (fun q b _ _ => r1 _ _ (by omega) (by omega)) (fun b => r2 _ _ (by omega)) (r2 _ _ (by omega)), ?_, ⟨?_, qG_fr g (fun q b _ _ => r1 _ _ (by omega) (by omega))⟩, hP, hL⟩, fun k hk => ?_, fun z => absurd hf z⟩
  · have r1' : ∀ b, ¬ b = 35 → r'.1 0 b = r.1 0 b := fun b hb => r1 0 b (by omega) (by omega)
    unfold qS
    rw [c1 0 6 (by omega) (by omega) (by omega), c1 0 7 (by omega) (by omega) (by omega), c1 10 6 (by omega) (by omega) (by omega), c1 8 6 (by omega) (by omega) (by omega), c1 10 10 (by omega) (by omega) (by omega), c1 10 11 (by omega) (by omega) (by omega), c1 10 12 (by omega) (by omega) (by omega), c1 10 13 (by omega) (by omega) (by omega), c1 10 9 (by omega) (by omega) (by omega), c1 9 3 (by omega) (by omega) (by omega), c1 8 1 (by omega) (by omega) (by omega), c2 0 8 (by omega), c2 8 2 (by omega), c2 8 3 (by omega), c2 8 4 (by omega), c2 8 5 (by omega), c2 10 0 (by omega), c2 10 7 (by omega), c2 10 8 (by omega), r1' 5 (by omega), r1' 6 (by omega), r1' 8 (by omega), r1' 9 (by omega), r1' 10 (by omega), r1' 11 (by omega), r1' 12 (by omega), r1' 13 (by omega), r1' 14 (by omega), r1' 4 (by omega), r1' 32 (by omega), r2 0 7 (by omega), r2 0 15 (by omega), r2 0 16 (by omega), r2 0 17 (by omega), r2 0 18 (by omega), r2 0 19 (by omega), r2 0 0 (by omega), r2 0 31 (by omega)]
    exact s
  · unfold qR
    rw [r1 0 8 (by omega) (by omega), r1 0 4 (by omega) (by omega)]
    rcases i with i | ⟨k, hk, i⟩
    · exact Or.inl i
    · exact Or.inr ⟨k, hk, by rw [r1 6 k (by omega) (by omega)]; exact i⟩
  · rw [c4 k hk, c5 k hk, (T k hk).1, (T k hk).2]
    have hk8 : k < 6 ∨ k = 6 ∨ k = 7 := by omega
    rcases hk8 with h6 | rfl | rfl
    · rw [y_bt h6, y_bt h6, y_at h6, y_at h6, r1 6 k (by omega) (by omega), r1 0 8 (by omega) (by omega), r1 7 k (by omega) (by omega), r1 8 k (by omega) (by omega)]
      exact ⟨rfl, rfl⟩
    · rw [y_at6, y_at6, y_bt6, y_bt6, r1 0 8 (by omega) (by omega), r1 11 _ (by omega) (by omega), r1 10 _ (by omega) (by omega)]
      exact ⟨rfl, rfl⟩
    · rw [y_at7, y_at7, y_bt7, y_bt7, r1 0 8 (by omega) (by omega)]
      exact ⟨rfl, rfl⟩
theorem y_legal (v : Int64) {k : Nat} (hk : k < 8) : m_X6_legal ((eb_lushr v (nI (8 * k))).toInt32) = (if ((((eb_lshr v (nI (8 * k))).toInt32) &&& 159) &&& 1) = 0 then ((((eb_lshr v (nI (8 * k))).toInt32) &&& 159) &&& (-3)) else (((eb_lshr v (nI (8 * k))).toInt32) &&& 159)) := by
  have e : ((eb_lushr v (nI (8 * k))).toInt32 &&& 159) = ((eb_lshr v (nI (8 * k))).toInt32 &&& 159) := by
    apply yb_ext
    intro i hi
    rw [yb_and, yb_and, yb_nar _ hi, yb_nar _ hi, yl_ushr _ (by omega), yl_sshr _ (by omega) _ (by omega)]
    by_cases h8 : i < 8
    · rw [if_pos (by omega)]
    · have : yb 159 i = false := (by decide +kernel : ∀ i, i < 32 → ¬ i < 8 → yb 159 i = false) i hi h8
      rw [this]
      simp
  unfold m_X6_legal
  rw [e]
theorem y_wcs {v : Int64} : ∀ (d k : Nat) (c r : eb_St), k + d = 8 → qL c → qP c r → ∀ m : Nat,
    qL (m_X6_writeConfigs_3 (m + d + 1) c v (nI (8 + k))) ∧ qP (m_X6_writeConfigs_3 (m + d + 1) c v (nI (8 + k))) (m_X10_write_143 (d + 1) r v (nI k)) ∧ cG c (m_X6_writeConfigs_3 (m + d + 1) c v (nI (8 + k))) ∧ (∀ b, b < 8 → (m_X6_writeConfigs_3 (m + d + 1) c v (nI (8 + k))).1 4 b = c.1 4 b) ∧ (m_X6_writeConfigs_3 (m + d + 1) c v (nI (8 + k))).2 = c.2 ∧ (∀ q b, ¬ q = 4 → (m_X10_write_143 (d + 1) r v (nI k)).1 q b = r.1 q b) ∧ (m_X10_write_143 (d + 1) r v (nI k)).2 = r.2 := by
  intro d
  induction d with
  | zero =>
    intro k c r h hL hP m
    have e1 : m_X6_writeConfigs_3 (m + 0 + 1) c v (nI (8 + k)) = c := by
      rw [m_X6_writeConfigs_3, if_pos (show (16 : Int32) ≤ nI (8 + k) from nI_le (a := 16) (by omega) (by omega))]
    have e2 : m_X10_write_143 (0 + 1) r v (nI k) = r := by
      rw [m_X10_write_143, if_pos (show (8 : Int32) ≤ nI k from nI_le (a := 8) (by omega) (by omega))]
    rw [e1, e2]
    exact ⟨hL, hP, cG_0 c, fun _ _ => rfl, rfl, fun _ _ _ => rfl, rfl⟩
  | succ d ih =>
    intro k c r h hL hP m
    have e1 : m_X6_writeConfigs_3 (m + (d + 1) + 1) c v (nI (8 + k)) = (if ((c.1 4 (8 + k)) &&& 128) = 0 then m_X6_writeConfigs_3 (m + d + 1) (m_X6_measureOut (eb_pI c 4 (8 + k) (m_X6_legal ((eb_lushr v (nI (8 * k))).toInt32))) (nI (8 + k))) v (nI (8 + (k + 1))) else m_X6_writeConfigs_3 (m + d + 1) c v (nI (8 + (k + 1)))) := by
      rw [show m + (d + 1) + 1 = (m + d + 1) + 1 by omega, m_X6_writeConfigs_3, if_neg (show ¬ (16 : Int32) ≤ nI (8 + k) from nI_ge (b := 16) (by omega) (by omega)), nI_clamp (by omega), nI_1, show nI (8 + k) - 8 = nI k from (pk_sub (a := 8 + k) (b := 8) (by omega)).trans (by congr 1; omega), show nI k * 8 = nI (8 * k) from (pk_mul k 8).trans (by congr 1; omega), show 8 + k + 1 = 8 + (k + 1) by omega]
    have e2 : m_X10_write_143 (d + 1 + 1) r v (nI k) = (if ((r.1 4 (8 + k)) &&& 128) = 0 then m_X10_write_143 (d + 1) (eb_pI r 4 (8 + k) (m_X6_legal ((eb_lushr v (nI (8 * k))).toInt32))) v (nI (k + 1)) else m_X10_write_143 (d + 1) r v (nI (k + 1))) := by
      rw [m_X10_write_143, if_neg (show ¬ (8 : Int32) ≤ nI k from nI_ge (b := 8) (by omega) (by omega))]
      unfold m_X10_isLocked
      rw [show (8 : Int32) + nI k = nI (8 + k) from nI_add 8 k, nI_clamp (by omega), nI_1, show (8 : Int32) * nI k = nI (8 * k) from pk_mul 8 k, y_legal v (show k < 8 by omega)]
      dsimp only
      by_cases q : ((r.1 4 (8 + k)) &&& 128) = 0
      · rw [if_pos q, if_pos q, if_pos (by decide)]
        by_cases q2 : (((eb_lshr v (nI (8 * k))).toInt32 &&& 159) &&& 1) = 0
        · rw [if_pos q2, if_pos q2]
        · rw [if_neg q2, if_neg q2]
      · rw [if_neg q, if_neg q, if_neg (by decide)]
    rw [e1, e2, (hP (8 + k) (by omega) (by omega)).1]
    by_cases q : ((r.1 4 (8 + k)) &&& 128) = 0
    · rw [if_pos q, if_pos q]
      generalize m_X6_legal ((eb_lushr v (nI (8 * k))).toInt32) = x
      have hp0 : yad (ypc (eb_pI c 4 (8 + k) x) (8 + k)) := by
        show yad (if 8 + k = 0 then 0 else c.2 5 (8 + k - 1))
        rw [if_neg (by omega)]
        exact (hL _ (by omega)).1
      obtain ⟨m1, m2, m3, m4⟩ := y_mo (c := eb_pI c 4 (8 + k) x) (i := 8 + k) (by omega) (hL _ (by omega)).1 hp0
      have hL1 : qL (m_X6_measureOut (eb_pI c 4 (8 + k) x) (nI (8 + k))) := fun j hj => by
        by_cases z : j = 8 + k
        · rw [z]; exact m1
        · exact m2 j z (qLj_fr (hL j hj) (by simp [eb_pI, z]) (by simp [eb_pI]) (by simp [eb_pI]) rfl rfl)
      have hP1 : qP (m_X6_measureOut (eb_pI c 4 (8 + k) x) (nI (8 + k))) (eb_pI r 4 (8 + k) x) := fun j h0 hj => by
        rw [m3 4 j (by omega) (by omega), m4]
        refine ⟨?_, (hP j h0 hj).2⟩
        by_cases z : j = 8 + k
        · simp [eb_pI, z]
        · simp [eb_pI, z]; exact (hP j h0 hj).1
      obtain ⟨i1, i2, i3, i4, i5, i6, i7⟩ := ih (k + 1) _ _ (by omega) hL1 hP1 m
      refine ⟨i1, i2, cG_t ⟨fun a b q4 q6 q7 => by rw [m3 a b q6 q7]; simp [eb_pI, q4], fun a b _ => by rw [m4]; rfl⟩ i3, fun b hb => ?_, by rw [i5, m4]; rfl, fun a b q4 => by rw [i6 a b q4]; simp [eb_pI, q4], by rw [i7]; rfl⟩
      rw [i4 b hb, m3 4 b (by omega) (by omega)]
      simp [eb_pI]
      intro z; omega
    · rw [if_neg q, if_neg q]
      exact ih (k + 1) c r (by omega) hL hP m
