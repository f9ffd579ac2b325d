/-! the calls -/
theorem S_poke {n : Nat} {c r : eb_St} (h : Q n 6 0 0 c r) (a : Int32) (v : Int64) : (m_X9_poke c a v).1 = (m_X10_poke r a v).1 ∧ Q n 6 0 0 (m_X9_poke c a v).2 (m_X10_poke r a v).2 := by
  obtain ⟨e, f⟩ := S_open h a
  unfold m_X9_poke m_X10_poke
  rw [e]
  cases q : m_X10_isOpen r a with
  | false => exact ⟨rfl, h⟩
  | true =>
    obtain ⟨i, hi, h8, rfl⟩ := f q
    refine ⟨rfl, ?_⟩
    exact Q_mem h (cF_store _ _ _ _) (y_put (z := 8) hi (Or.inr (Or.inr (Or.inr rfl)))).1 (qM_store h.1.1 (z := 8) hi (Or.inr (Or.inr (Or.inr rfl))) h8)
theorem S_peek {n : Nat} {c r : eb_St} (h : Q n 6 0 0 c r) (a : Int32) : m_X9_peek c a = m_X10_peek r a := by
  obtain ⟨e, f⟩ := S_open h a
  unfold m_X9_peek m_X10_peek
  rw [e]
  cases q : m_X10_isOpen r a with
  | false => rfl
  | true =>
    obtain ⟨i, hi, h8, rfl⟩ := f q
    have e8 := qM_load h.1.1 (z := 8) hi (Or.inr (Or.inr (Or.inr rfl))) h8
    dsimp only
    rw [if_neg (show ¬ eb_b true = 0 by decide), if_neg (show ¬ eb_b true = 0 by decide), show (8 : Int32) = nI 8 from rfl, e8]
theorem S_int {n : Nat} {c r : eb_St} (h : Q n 6 0 0 c r) : Q n 6 0 0 (m_X9_interrupt c) (m_X10_interrupt r) := by
  obtain ⟨s1, s2, s3, s4, s5, s6, s7, s8, s9, s10, s11, s12, s13, s14, s15, s16, s17, s18, s19, s20, s21, s22⟩ := h.1.2.2.2.1
  exact Q_sc h (fun q b _ _ _ h10 => pI_o h10) (fun q b _ _ _ _ _ _ => rfl) (fun q b h0 => pI_o h0) (fun q b _ _ _ => rfl) rfl rfl (Or.inl rfl) ⟨s1, s2, s3, s4, s5, s6, s7, s8, s9, rfl, s11, s12, s13, s14, s15, s16, s17, s18, s19, s20, s21, s22⟩ (qX_fr h.1.2.1 (fun q b hq => rfl) (fun b => rfl) (fun q b hq => rfl)) h.1.2.2.2.2.1.1
theorem S_reg {n : Nat} {c r : eb_St} (h : Q n 6 0 0 c r) (a : Int32) : m_X9_register c a = m_X10_register r a := by
  unfold m_X9_register m_X10_register
  by_cases h0 : a < 0
  · rw [if_pos h0, if_pos h0]
  rw [if_neg h0, if_neg h0]
  by_cases h1 : a ≤ 31
  · rw [if_pos h1, if_pos h1]
    obtain ⟨j, hj, rfl⟩ := nI_of2 (M := 31) (n := 31) (by decide) h0 h1
    unfold m_X7_get
    rw [pk_andN (n := j) (by omega) (m := 31) 5 (by decide), show (192 : Int32) + nI j = nI (192 + j) from nI_add 192 j, nI_clamp (by omega), nI_clamp (by omega), Nat.mod_eq_of_lt (show j < 2 ^ 5 by omega)]
    exact (h.1.2.1 6 (by omega) (Or.inl rfl)).1 j (by omega)
  · rw [if_neg h1, if_neg h1]
theorem S_state {n : Nat} {c r : eb_St} (h : Q n 6 0 0 c r) (a : Int32) : m_X9_state c a = m_X10_state r a := by
  obtain ⟨s1, s2, s3, s4, s5, s6, s7, s8, s9, s10, s11, s12, s13, s14, s15, s16, s17, s18, s19, s20, s21, s22⟩ := h.1.2.2.2.1
  unfold m_X9_state m_X10_state
  rw [s1, s2, s4, s5, s6, s7, s8, s9, s11, Int32.add_zero]
theorem S_held {n : Nat} {c r : eb_St} (h : Q n 6 0 0 c r) (a : Int32) : m_X9_held c a = m_X10_held r a := by
  obtain ⟨s1, s2, s3, s4, s5, s6, s7, s8, s9, s10, s11, s12, s13, s14, s15, s16, s17, s18, s19, s20, s21, s22⟩ := h.1.2.2.2.1
  have hp : r.2 3 6 = c.2 25 1 := Q_pc0 h (s := 6) (by omega) (Or.inl rfl)
  have hm : m_X1_mstatus c = eb_lshl (r.2 0 15) 11 := by
    unfold m_X1_mstatus
    rw [s12]
    rcases s13 with z | z
    · rw [z]; rfl
    · rw [z]; rfl
  unfold m_X9_held m_X10_held
  rw [hm, s3, s14, s15, s16, s17, show (6 : Int32).toNatClampNeg = 6 by decide, hp]
theorem S_pmp {n : Nat} {c r : eb_St} (h : Q n 6 0 0 c r) (a b : Int32) : m_X9_pmp c a b = m_X10_pmp r a b := by
  unfold m_X9_pmp m_X10_pmp
  by_cases h0 : a < 0
  · rw [if_pos h0, if_pos h0]
  rw [if_neg h0, if_neg h0]
  have l : a < 16 ↔ a ≤ 15 := by rw [Int32.lt_iff_toInt_lt, Int32.le_iff_toInt_le, show (16 : Int32).toInt = 16 by decide, show (15 : Int32).toInt = 15 by decide]; omega
  by_cases h1 : a ≤ 15
  · rw [if_pos h1, if_pos (l.mpr h1)]
    obtain ⟨j, hj, rfl⟩ := nI_of2 (M := 15) (n := 15) (by decide) h0 h1
    obtain ⟨q1, q2⟩ := Q_B h (i := j) (by omega)
    rw [nI_clamp (by omega), q1, q2]
  · rw [if_neg h1, if_neg (fun z => h1 (l.mp z))]
theorem S_enc {n : Nat} {c r : eb_St} (h : Q n 6 0 0 c r) (a b : Int32) : m_X9_enclave c a b = m_X10_enclave r a b := by
  unfold m_X9_enclave m_X10_enclave m_X2_fact m_X10_isLive
  by_cases h0 : a < 0
  · rw [if_pos h0, if_pos h0]
  rw [if_neg h0, if_neg h0]
  have l : a < 6 ↔ ¬ (5 : Int32) < a := by rw [Int32.lt_iff_toInt_lt, Int32.lt_iff_toInt_lt, show (6 : Int32).toInt = 6 by decide, show (5 : Int32).toInt = 5 by decide]; omega
  by_cases h1 : (5 : Int32) < a
  · rw [if_pos h1, if_neg (fun z => (l.mp z) h1)]
  · rw [if_neg h1, if_pos (l.mpr h1)]
    obtain ⟨j, hj, rfl⟩ := nI_of h0
    have hj6 : j < 6 := Nat.lt_of_not_le (fun z => h1 (nI_lt (a := 5) (by omega) (by omega)))
    obtain ⟨e1, e2, e3, e4, e5, e6, e7, e8, _⟩ := h.1.2.2.1 j hj6
    rw [if_neg (show ¬ j = 6 by omega), Int32.add_zero] at e8
    dsimp only
    rw [nI_clamp (by omega), e1, e2, e3, e4, e5, e6, e7, ← e8]
    by_cases q : r.1 6 j = 0
    · rw [if_pos q, if_pos q]; rfl
    · rw [if_neg q, if_neg q]; rfl
theorem S_eye {n : Nat} {c r : eb_St} (h : Q n 6 0 0 c r) (a b : Int32) : m_X9_eye c a b = m_X10_eye r a b := by
  unfold m_X9_eye m_X10_eye m_X10_isLive
  by_cases h0 : a < 0
  · rw [if_pos h0, if_pos h0]
  rw [if_neg h0, if_neg h0]
  have l : (6 : Int32) ≤ a ↔ (5 : Int32) < a := by rw [Int32.le_iff_toInt_le, Int32.lt_iff_toInt_lt, show (6 : Int32).toInt = 6 by decide, show (5 : Int32).toInt = 5 by decide]; omega
  by_cases h1 : (5 : Int32) < a
  · rw [if_pos h1, if_pos (l.mpr h1)]
  rw [if_neg h1, if_neg (fun z => h1 (l.mp z))]
  obtain ⟨j, hj, rfl⟩ := nI_of h0
  have hj6 : j < 6 := Nat.lt_of_not_le (fun z => h1 (nI_lt (a := 5) (by omega) (by omega)))
  obtain ⟨e1, e2, e3, e4, e5, e6, e7, e8, e9, e10⟩ := h.1.2.2.1 j hj6
  dsimp only
  rw [nI_clamp (by omega), e1]
  by_cases q : r.1 6 j = 0
  · rw [if_pos q, if_pos q, if_pos (show eb_b false = 0 by decide)]
    by_cases hb : 0 ≤ b
    · rw [if_pos hb]
    · rw [if_neg hb]
  rw [if_neg q, if_neg q, if_neg (show ¬ eb_b true = 0 by decide)]
  by_cases hb : 0 ≤ b
  · rw [if_pos hb, if_pos hb]
    obtain ⟨x1, x2⟩ := h.1.2.1 j (by omega) (Or.inr q)
    rw [if_neg (show ¬ j = 6 by omega), Int64.add_zero] at x2
    have hb0 : ¬ b < 0 := eb_ge0 hb
    obtain ⟨k, hk, rfl⟩ := nI_of hb0
    by_cases h32 : (32 : Int32) ≤ nI k
    · rw [if_pos h32, if_pos h32]
      have k32 : 32 ≤ k := (nI_leI (a := 32) (by omega) (by omega)).mp h32
      by_cases w32 : nI k = 32
      · rw [if_pos w32, w32, if_neg (show ¬ (35 : Int32) ≤ 32 by decide), if_pos rfl]
        exact x2.symm
      rw [if_neg w32]
      by_cases w33 : nI k = 33
      · rw [if_pos w33, w33, if_neg (show ¬ (35 : Int32) ≤ 33 by decide), if_neg (show ¬ (33 : Int32) = 32 by decide), if_pos rfl]
        exact e9
      rw [if_neg w33]
      by_cases w34 : nI k = 34
      · rw [if_pos w34, w34, if_neg (show ¬ (35 : Int32) ≤ 34 by decide), if_neg (show ¬ (34 : Int32) = 32 by decide), if_neg (show ¬ (34 : Int32) = 33 by decide), e10 q, y_keyR, nI_clamp (by omega)]
      rw [if_neg w34]
      have k35 : 35 ≤ k := by
        have n32 : ¬ k = 32 := fun z => w32 (by rw [z]; rfl)
        have n33 : ¬ k = 33 := fun z => w33 (by rw [z]; rfl)
        have n34 : ¬ k = 34 := fun z => w34 (by rw [z]; rfl)
        omega
      rw [if_pos (show (35 : Int32) ≤ nI k from nI_le (a := 35) k35 (by omega)), e2, e3, show nI k - 35 = nI (k - 35) from pk_sub (b := 35) k35]
      obtain ⟨B, S, b1, b2, b3, b4, b5, b6⟩ := y_geo (h.1.2.2.2.2.1.2 j hj6 q).1 (by omega)
      rw [b1, b2, show nI S / 8 = nI (S / 8) from pk_div (d := 8) (by omega) (by omega) (by omega)]
      by_cases w : nI (S / 8) ≤ nI (k - 35)
      · rw [if_pos w, if_pos w]
      · rw [if_neg w, if_neg w]
        have w2 : k - 35 < S / 8 := Nat.lt_of_not_le (fun z => w (nI_le z (by omega)))
        rw [show (8 : Int32) * nI (k - 35) = nI (8 * (k - 35)) from pk_mul 8 _, nI_add]
        exact qM_load h.1.1 (z := 8) (by omega) (Or.inr (Or.inr (Or.inr rfl))) (by omega)
    · rw [if_neg h32, if_neg h32]
      have k32 : k < 32 := Nat.lt_of_not_le (fun z => h32 (nI_le (a := 32) z (by omega)))
      unfold m_X7_get
      rw [pk_andN (n := k) (by omega) (m := 31) 5 (by decide), show (32 : Int32) * nI j = nI (32 * j) from pk_mul 32 j, nI_add, nI_clamp (by omega), nI_clamp (by omega), Nat.mod_eq_of_lt (show k < 2 ^ 5 by omega)]
      exact x1 k k32
  · rw [if_neg hb, if_neg hb]
