/-! what a create tells -/
theorem y_pow2 {n : Nat} (h0 : 0 < n) (h : n &&& (n - 1) = 0) : ∃ t, n = 2 ^ t := by
  obtain ⟨t, q, e⟩ := y_ones (n - 1)
  have hp : 0 < 2 ^ t := Nat.two_pow_pos t
  have hp2 : 2 ^ (t + 1) = 2 * 2 ^ t := Nat.pow_succ'
  rw [show n - 1 + 1 = n by omega] at e
  have e2 : n - 1 = 2 ^ (t + 1) * q + (2 ^ t - 1) := by omega
  have e3 : n &&& (n - 1) = 2 ^ (t + 1) * q := by
    apply Nat.eq_of_testBit_eq
    intro j
    rw [Nat.testBit_and, e2]
    rw [e, Nat.testBit_two_pow_mul_add _ (by omega), Nat.testBit_two_pow_mul_add _ (by omega), Nat.testBit_two_pow_mul]
    by_cases hj : j < t + 1
    · rw [if_pos hj, if_pos hj, Nat.testBit_two_pow_sub_one, Nat.testBit_two_pow, decide_eq_false (show ¬ t + 1 ≤ j by omega)]
      by_cases h2 : t = j
      · simp [h2]
      · simp [h2]
    · rw [if_neg hj, if_neg hj, decide_eq_true (show t + 1 ≤ j by omega)]
      simp
  rw [h] at e3
  have hq : q = 0 := by
    rcases Nat.eq_zero_or_pos q with z | z
    · exact z
    · have : 0 < 2 ^ (t + 1) * q := Nat.mul_pos (by omega) z
      omega
  exact ⟨t, by rw [e, hq]; omega⟩
theorem y_isPow {v : Int64} {lo hi : Nat} (hlo : 0 < lo) (hlo2 : lo < 2 ^ 31) (hhi : hi < 2 ^ 31) (h : m_X10_isPower v (lN lo) (lN hi) = true) : ∃ p, v = lN (2 ^ p) ∧ lo ≤ 2 ^ p ∧ 2 ^ p ≤ hi := by
  unfold m_X10_isPower at h
  by_cases h1 : v < lN lo
  · rw [if_pos h1] at h; exact absurd h (by decide)
  rw [if_neg h1] at h
  by_cases h2 : lN hi < v
  · rw [if_pos h2] at h; exact absurd h (by decide)
  rw [if_neg h2] at h
  obtain ⟨k, hk, rfl⟩ := pk_lOf (x := v) (by rw [Int64.lt_iff_toInt_lt, show (0 : Int64).toInt = 0 by decide]; rw [Int64.lt_iff_toInt_lt, pk_lT (by omega)] at h1; omega)
  rw [pk_lLT (by omega) (by omega)] at h1 h2
  by_cases h3 : (lN k &&& (lN k - 1)) = 0
  · rw [show lN k - 1 = lN (k - 1) from lN_sub (b := 1) (by omega), y_andL] at h3
    have hk2 : k &&& (k - 1) ≤ k := Nat.and_le_left
    have h4 : k &&& (k - 1) = 0 := (pk_lEQ (b := 0) (by omega) (by omega)).mp h3
    obtain ⟨t, ht⟩ := y_pow2 (by omega) h4
    exact ⟨t, by rw [ht], by omega, by omega⟩
  · rw [if_neg h3] at h; exact absurd h (by decide)
theorem y_lies (A : Int64) {p : Nat} (hp : 2 ^ p ≤ 65536) : m_X8_liesAligned A (lN (2 ^ p)) = m_X10_isTold A (lN (2 ^ p)) := by
  have hp0 : 0 < 2 ^ p := Nat.two_pow_pos p
  unfold m_X8_liesAligned m_X10_isTold
  by_cases h0 : A < 0
  · rw [if_pos h0, if_pos h0]
  · rw [if_neg h0, if_neg h0]
    obtain ⟨a, ha, rfl⟩ := pk_lOf h0
    rw [show lN (2 ^ p) - 1 = lN (2 ^ p - 1) from lN_sub (b := 1) (by omega), y_maskL, pk_lRem ha hp0 (by omega)]
    by_cases h1 : (65536 - lN (2 ^ p)) < lN a
    · rw [if_pos h1, if_pos h1]
      by_cases h2 : lN (a % 2 ^ p) = 0
      · rw [if_pos h2]
      · rw [if_neg h2]
    · rw [if_neg h1, if_neg h1]
theorem y_told {A : Int64} {p : Nat} (hp : 2 ^ p ≤ 65536) (h : m_X10_isTold A (lN (2 ^ p)) = true) : ∃ m, A = lN (2 ^ p * m) ∧ 2 ^ p * m + 2 ^ p ≤ 65536 := by
  have hp0 : 0 < 2 ^ p := Nat.two_pow_pos p
  unfold m_X10_isTold at h
  by_cases h0 : A < 0
  · rw [if_pos h0] at h; exact absurd h (by decide)
  rw [if_neg h0] at h
  obtain ⟨a, ha, rfl⟩ := pk_lOf h0
  rw [pk_lRem ha hp0 (by omega)] at h
  by_cases h2 : lN (a % 2 ^ p) = 0
  · rw [if_pos h2] at h
    by_cases h1 : (65536 - lN (2 ^ p)) < lN a
    · rw [if_pos h1] at h; exact absurd h (by decide)
    · rw [show (65536 : Int64) - lN (2 ^ p) = lN (65536 - 2 ^ p) from lN_sub (a := 65536) hp, pk_lLT (by omega) ha] at h1
      have hm := Nat.mod_lt a hp0
      have h3 : a % 2 ^ p = 0 := (pk_lEQ (b := 0) (by omega) (by omega)).mp h2
      have h4 := Nat.div_add_mod a (2 ^ p)
      rw [h3, Nat.add_zero] at h4
      exact ⟨a / 2 ^ p, by rw [h4], by omega⟩
  · rw [if_neg h2] at h; exact absurd h (by decide)
/-- what the reference asks of a create's words -/
def yrt (A N I M F W S : Int64) : Bool := m_X10_isPower N 32 16384 && (m_X10_isTold A N && (m_X10_in M 0 N && ((decide (M ≤ 0) || (!decide (I < 0) && decide (I ≤ 65536 - M))) && (m_X10_in F 0 (N - 1) && (decide (F - F / 4 * 4 = 0) && (decide (S = 0) || (m_X10_isPower S 8 4096 && (m_X10_isTold W S && !m_X10_meet A N W S))))))))
theorem y_createR (r : eb_St) : m_X10_create r = if yrt (m_X10_x r 10) (m_X10_x r 11) (m_X10_x r 12) (m_X10_x r 13) (m_X10_x r 14) (m_X10_x r 15) (m_X10_x r 16) = true then m_X10_create_206 7 r (m_X10_x r 10) (m_X10_x r 11) (m_X10_x r 12) (m_X10_x r 13) (m_X10_x r 14) (m_X10_x r 15) (m_X10_x r 16) (-1) 5 else ((-1), r) := by
  unfold m_X10_create m_X10_create_119 m_X10_create_167 m_X10_create_200 yrt
  dsimp only
  generalize m_X10_x r 10 = A
  generalize m_X10_x r 11 = N
  generalize m_X10_x r 12 = I
  generalize m_X10_x r 13 = M
  generalize m_X10_x r 14 = F
  generalize m_X10_x r 15 = W
  generalize m_X10_x r 16 = S
  generalize m_X10_create_206 7 r A N I M F W S (-1) 5 = G
  cases m_X10_isPower N 32 16384
  · rfl
  cases m_X10_isTold A N
  · rfl
  cases m_X10_in M 0 N
  · rfl
  by_cases hM : M ≤ 0
  · simp only [hM, if_true, decide_true, Bool.true_or, Bool.true_and, if_neg (show ¬ eb_b true = 0 by decide)]
    cases m_X10_in F 0 (N - 1)
    · rfl
    by_cases hF : F - F / 4 * 4 = 0
    · simp only [hF, if_true, decide_true, Bool.true_and, if_neg (show ¬ eb_b true = 0 by decide)]
      by_cases hS : S = 0
      · simp [hS]
      · simp only [hS, if_false, decide_false, Bool.false_or]
        cases m_X10_isPower S 8 4096
        · rfl
        cases m_X10_isTold W S
        · rfl
        cases m_X10_meet A N W S <;> rfl
    · simp [hF, eb_b]
  · simp only [hM, if_false, decide_false, Bool.false_or, Bool.true_and, if_neg (show ¬ eb_b true = 0 by decide)]
    by_cases hI : I < 0
    · simp [hI]
    · simp only [hI, if_false, decide_false, Bool.not_false, Bool.true_and]
      by_cases hI2 : I ≤ 65536 - M
      · simp only [hI2, if_true, decide_true, Bool.true_and]
        cases m_X10_in F 0 (N - 1)
        · rfl
        by_cases hF : F - F / 4 * 4 = 0
        · simp only [hF, if_true, decide_true, Bool.true_and, if_neg (show ¬ eb_b true = 0 by decide)]
          by_cases hS : S = 0
          · simp [hS]
          · simp only [hS, if_false, decide_false, Bool.false_or]
            cases m_X10_isPower S 8 4096
            · rfl
            cases m_X10_isTold W S
            · rfl
            cases m_X10_meet A N W S <;> rfl
        · simp [hF, eb_b]
      · simp [hI2]
theorem y_meetP {a n b m : Int64} (hn : 0 < n.toInt) (hm : 0 < m.toInt) : m_X10_meet a n b m = m_X8_meet a n b m := by
  unfold m_X10_meet m_X8_meet
  rw [if_neg (show ¬ n ≤ 0 by rw [Int64.le_iff_toInt_le, show (0 : Int64).toInt = 0 by decide]; omega), if_neg (show ¬ m ≤ 0 by rw [Int64.le_iff_toInt_le, show (0 : Int64).toInt = 0 by decide]; omega)]
theorem y_toldC (z : eb_St) : m_X8_isToldRightly z = yrt (z.2 11 0) (z.2 11 1) (z.2 11 2) (z.2 11 3) (z.2 11 4) (z.2 11 5) (z.2 11 6) := by
  unfold m_X8_isToldRightly m_X8_isToldRightly_84 m_X8_isShareToldRightly yrt
  dsimp only
  generalize z.2 11 0 = A
  generalize z.2 11 1 = N
  generalize z.2 11 2 = I
  generalize z.2 11 3 = M
  generalize z.2 11 4 = F
  generalize z.2 11 5 = W
  generalize z.2 11 6 = S
  rw [show m_X8_isPowerOfTwo N 32 16384 = m_X10_isPower N 32 16384 from rfl, show m_X8_isPowerOfTwo S 8 4096 = m_X10_isPower S 8 4096 from rfl]
  cases hN : m_X10_isPower N 32 16384
  · rfl
  obtain ⟨p, rfl, p1, p2⟩ := y_isPow (lo := 32) (hi := 16384) (by omega) (by omega) (by omega) hN
  rw [y_lies A (by omega)]
  cases m_X10_isTold A (lN (2 ^ p))
  · rfl
  have hN0 : 0 < (lN (2 ^ p)).toInt := by rw [pk_lT (by omega)]; omega
  have tail : ((if (F &&& 3) = 0 then (if F < 0 then false else (if (lN (2 ^ p)) ≤ F then false else (if S = 0 then true else (if (eb_b (if (eb_b (m_X10_isPower S 8 4096)) = 0 then false else (if (eb_b (m_X8_liesAligned W S)) = 0 then false else (if (eb_b (m_X8_meet A (lN (2 ^ p)) W S)) = 0 then true else false)))) = 0 then false else true)))) else false) : Bool) = (m_X10_in F 0 (lN (2 ^ p) - 1) && (decide (F - F / 4 * 4 = 0) && (decide (S = 0) || (m_X10_isPower S 8 4096 && (m_X10_isTold W S && !m_X10_meet A (lN (2 ^ p)) W S))))) := by
    unfold m_X10_in
    by_cases h0 : F < 0
    · by_cases h3 : (F &&& 3) = 0
      · simp only [if_pos h3, if_pos h0, Bool.false_and]
      · simp only [if_neg h3, if_pos h0, Bool.false_and]
    · obtain ⟨f, hf, rfl⟩ := pk_lOf h0
      rw [show lN (2 ^ p) - 1 = lN (2 ^ p - 1) from lN_sub (b := 1) (by omega), show (lN f &&& 3) = lN (f % 2 ^ 2) from y_maskL f 2, show lN f - lN f / 4 * 4 = lN (f % 4) from pk_lRem (b := 4) hf (by omega) (by omega)]
      by_cases h3 : lN (f % 4) = 0
      · simp only [if_pos (show lN (f % 2 ^ 2) = 0 from h3), if_neg h0, decide_eq_true h3]
        by_cases h4 : lN (2 ^ p) ≤ lN f
        · have h5 : lN (2 ^ p - 1) < lN f := by rw [pk_lLE (by omega) hf] at h4; rw [pk_lLT (by omega) hf]; omega
          simp only [if_pos h4, if_pos h5, Bool.false_and]
        · have h5 : ¬ lN (2 ^ p - 1) < lN f := by rw [pk_lLE (by omega) hf] at h4; rw [pk_lLT (by omega) hf]; omega
          simp only [if_neg h4, if_neg h5]
          by_cases hS : S = 0
          · simp [hS]
          · rw [if_neg hS, decide_eq_false hS]
            cases hS2 : m_X10_isPower S 8 4096
            · rfl
            obtain ⟨s, rfl, q1, q2⟩ := y_isPow (lo := 8) (hi := 4096) (by omega) (by omega) (by omega) hS2
            rw [y_lies W (by omega), y_meetP hN0 (by rw [pk_lT (by omega)]; omega)]
            cases m_X10_isTold W (lN (2 ^ s))
            · rfl
            cases m_X8_meet A (lN (2 ^ p)) W (lN (2 ^ s)) <;> rfl
      · simp only [if_neg (show ¬ lN (f % 2 ^ 2) = 0 from h3), decide_eq_false h3, Bool.false_and, Bool.and_false]
  unfold m_X10_in at tail ⊢
  by_cases hM : M < 0
  · simp [hM, eb_b]
  · simp only [if_neg hM]
    by_cases hM2 : lN (2 ^ p) < M
    · simp [hM2, eb_b]
    · simp only [if_neg hM2, if_neg (show ¬ eb_b true = 0 by decide)]
      have e0 : (M ≤ 0) ↔ M = 0 := by
        rw [Int64.lt_iff_toInt_lt, show (0 : Int64).toInt = 0 by decide] at hM
        rw [Int64.le_iff_toInt_le, ← Int64.toInt_inj, show (0 : Int64).toInt = 0 by decide]
        omega
      by_cases hM0 : M = 0
      · simp only [if_pos hM0, decide_eq_true (e0.mpr hM0), Bool.true_or, Bool.true_and]
        exact tail
      · simp only [if_neg hM0, decide_eq_false (fun q => hM0 (e0.mp q)), Bool.false_or, Bool.true_and]
        by_cases hI : I < 0
        · simp [hI]
        · simp only [if_neg hI, decide_eq_false hI, Bool.not_false, Bool.true_and]
          by_cases hI2 : 65536 - M < I
          · have : ¬ I ≤ 65536 - M := by rw [Int64.lt_iff_toInt_lt] at hI2; rw [Int64.le_iff_toInt_le]; omega
            simp [hI2, this]
          · have : I ≤ 65536 - M := by rw [Int64.lt_iff_toInt_lt] at hI2; rw [Int64.le_iff_toInt_le]; omega
            simp only [if_neg hI2, decide_eq_true this, Bool.true_and]
            exact tail
/-- what is known of words that are told rightly -/
theorem y_toldF {A N I M F W S : Int64} (h : yrt A N I M F W S = true) : ∃ p g m f : Nat, 5 ≤ p ∧ p ≤ 14 ∧ N = lN (2 ^ p) ∧ A = lN (2 ^ p * g) ∧ 2 ^ p * g + 2 ^ p ≤ 65536 ∧ M = lN m ∧ m ≤ 2 ^ p ∧ (m = 0 ∨ ∃ i, I = lN i ∧ i + m ≤ 65536) ∧ F = lN f ∧ f < 2 ^ p ∧ (S = 0 ∨ ∃ s w : Nat, 3 ≤ s ∧ s ≤ 12 ∧ S = lN (2 ^ s) ∧ W = lN (2 ^ s * w) ∧ 2 ^ s * w + 2 ^ s ≤ 65536) := by
  unfold yrt at h
  rw [Bool.and_eq_true, Bool.and_eq_true, Bool.and_eq_true, Bool.and_eq_true, Bool.and_eq_true, Bool.and_eq_true] at h
  obtain ⟨h1, h2, h3, h4, h5, h6, h7⟩ := h
  obtain ⟨p, rfl, p1, p2⟩ := y_isPow (lo := 32) (hi := 16384) (by omega) (by omega) (by omega) h1
  obtain ⟨g, rfl, g2⟩ := y_told (by omega) h2
  have p5 : 5 ≤ p := by
    apply Nat.le_of_not_lt
    intro z
    have := Nat.pow_le_pow_right (n := 2) (by decide) (show p ≤ 4 by omega)
    omega
  have p14 : p ≤ 14 := by
    apply Nat.le_of_not_lt
    intro z
    have := Nat.pow_le_pow_right (n := 2) (by decide) (show 15 ≤ p by omega)
    omega
  have hin : ∀ {x y : Int64}, m_X10_in x 0 y = true → 0 ≤ x.toInt ∧ x.toInt ≤ y.toInt := fun {x y} hh => by
    have := l_X10_in hh
    rw [show (0 : Int64).toInt = 0 by decide] at this
    exact this
  obtain ⟨m, hm, eM, eM2⟩ := y_lI M (hin h3).1
  obtain ⟨f, hf, eF, eF2⟩ := y_lI F (hin h5).1
  have hM := (hin h3).2
  have hF := (hin h5).2
  rw [pk_lT (by omega)] at hM
  rw [show lN (2 ^ p) - 1 = lN (2 ^ p - 1) from lN_sub (b := 1) (by omega), pk_lT (by omega)] at hF
  refine ⟨p, g, m, f, p5, p14, rfl, rfl, g2, eM, by omega, ?_, eF, by omega, ?_⟩
  · rw [Bool.or_eq_true, Bool.and_eq_true] at h4
    rcases h4 with h4 | ⟨h4, h4b⟩
    · have h4 := of_decide_eq_true h4
      rw [Int64.le_iff_toInt_le, show (0 : Int64).toInt = 0 by decide] at h4
      exact Or.inl (by omega)
    · right
      have h4c : ¬ I < 0 := by
        intro z
        rw [decide_eq_true z] at h4
        exact absurd h4 (by decide)
      have h4d := of_decide_eq_true h4b
      obtain ⟨i, hi, rfl⟩ := pk_lOf h4c
      rw [eM, show (65536 : Int64) - lN m = lN (65536 - m) from lN_sub (a := 65536) (by omega), pk_lLE hi (by omega)] at h4d
      exact ⟨i, rfl, by omega⟩
  · rw [Bool.or_eq_true, Bool.and_eq_true, Bool.and_eq_true] at h7
    rcases h7 with h7 | ⟨h7, h8, h9⟩
    · exact Or.inl (of_decide_eq_true h7)
    · right
      obtain ⟨s, rfl, s1, s2⟩ := y_isPow (lo := 8) (hi := 4096) (by omega) (by omega) (by omega) h7
      obtain ⟨w, rfl, w2⟩ := y_told (by omega) h8
      refine ⟨s, w, ?_, ?_, rfl, rfl, w2⟩
      · apply Nat.le_of_not_lt
        intro z
        have := Nat.pow_le_pow_right (n := 2) (by decide) (show s ≤ 2 by omega)
        omega
      · apply Nat.le_of_not_lt
        intro z
        have := Nat.pow_le_pow_right (n := 2) (by decide) (show 13 ≤ s by omega)
        omega
