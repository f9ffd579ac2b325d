/-! the host's calls; what the answers show -/
theorem y_isPl (z : Int64) : m_X5_isPlace z = m_X10_in z 0 5 := by
  unfold m_X5_isPlace m_X10_in
  have : ((6 : Int64) ≤ z) ↔ ((5 : Int64) < z) := by
    rw [Int64.le_iff_toInt_le, Int64.lt_iff_toInt_lt, show (6 : Int64).toInt = 6 by decide, show (5 : Int64).toInt = 5 by decide]
    omega
  by_cases q : (5 : Int64) < z
  · rw [if_pos q, if_pos (this.mpr q)]
  · rw [if_neg q, if_neg (fun w => q (this.mp w))]
theorem y_host : yHost := by
  intro n c r h hr hm0
  have hset := y_set6 hr
  have x17 : m_X10_x r 17 = m_X7_get c 6 17 := y_x h (s := 6) (by omega) hset (Or.inl rfl) (j := 17) (by omega)
  have x10 : m_X10_x r 10 = m_X7_get c 6 10 := y_x h (s := 6) (by omega) hset (Or.inl rfl) (j := 10) (by omega)
  have hm1 : Q n 6 1 4 (m_X7_set c 6 10 (-1)) (m_X10_give r 10 (-1)) := (Q_give h hset (by omega) (j := 10) (by omega) (by omega) rfl).1
  unfold m_X5_answerHost m_X5_answerHost_62 m_X10_hostCalls
  dsimp only
  rw [x17, x10]
  generalize m_X7_get c 6 17 = a
  generalize m_X7_get c 6 10 = b
  by_cases c1 : a = 1
  · rw [if_pos c1, if_pos c1]
    obtain ⟨e1, q, h8⟩ := Q_create h hr
    exact (Q_give q (s := 6) (y_set6 h8) (by omega) (j := 10) (by omega) (by omega) e1).1
  rw [if_neg c1, if_neg c1, y_isPl]
  have l2 : a < 2 ↔ a.toInt < 2 := by rw [Int64.lt_iff_toInt_lt, show (2 : Int64).toInt = 2 by decide]
  have l4 : (4 : Int64) < a ↔ 4 < a.toInt := by rw [Int64.lt_iff_toInt_lt, show (4 : Int64).toInt = 4 by decide]
  have e2 : a = 2 ↔ a.toInt = 2 := by rw [← Int64.toInt_inj, show (2 : Int64).toInt = 2 by decide]
  have e3 : a = 3 ↔ a.toInt = 3 := by rw [← Int64.toInt_inj, show (3 : Int64).toInt = 3 by decide]
  have e4 : a = 4 ↔ a.toInt = 4 := by rw [← Int64.toInt_inj, show (4 : Int64).toInt = 4 by decide]
  cases hp : m_X10_in b 0 5 with
  | false =>
    rw [if_pos (show eb_b false = 0 by decide), if_pos (show eb_b false = 0 by decide)]
    by_cases q1 : a < 2
    · rw [if_pos q1]; exact hm1
    · rw [if_neg q1]
      by_cases q2 : (4 : Int64) < a
      · rw [if_pos q2]; exact hm1
      · rw [if_neg q2]; exact hm1
  | true =>
    simp only [if_neg (show ¬ eb_b true = 0 by decide)]
    have hb := l_X10_in hp
    rw [show (0 : Int64).toInt = 0 by decide, show (5 : Int64).toInt = 5 by decide] at hb
    obtain ⟨e, he, rfl, he2⟩ := y_lI b hb.1
    have he6 : e < 6 := by omega
    rw [lN_i, nI_clamp (by omega), (h.1.2.2.1 e he6).1]
    unfold m_X10_isLive
    rw [nI_clamp (by omega)]
    by_cases hl : r.1 6 e = 0
    · rw [if_pos hl, if_pos hl]
      by_cases q1 : a < 2
      · rw [if_pos q1]; exact hm1
      · rw [if_neg q1]
        by_cases q2 : (4 : Int64) < a
        · rw [if_pos q2]; exact hm1
        · rw [if_neg q2]; exact hm1
    · rw [if_neg hl, if_neg hl]
      simp only [if_neg (show ¬ eb_b true = 0 by decide)]
      by_cases q2 : a = 2
      · rw [if_pos q2, if_neg (by rw [l2]; rw [e2] at q2; omega), if_neg (by rw [l4]; rw [e2] at q2; omega), if_pos q2]
        exact Q_enter h hr hm0 he6 hl
      · rw [if_neg q2]
        by_cases q3 : a = 3
        · rw [if_pos q3, if_neg (by rw [l2]; rw [e3] at q3; omega), if_neg (by rw [l4]; rw [e3] at q3; omega), if_neg q2, if_pos q3]
          exact Q_destroy h hr he6 hl
        · rw [if_neg q3]
          by_cases q4 : a = 4
          · rw [if_pos q4, if_neg (by rw [l2]; rw [e4] at q4; omega), if_neg (by rw [l4]; rw [e4] at q4; omega), if_neg q2, if_neg q3]
            obtain ⟨g1, g2, g3, g4, g5⟩ := Q_give h hset (by omega) (j := 10) (by omega) (by omega) (x := (r.1 6 e).toInt64) (y := (r.1 6 e).toInt64) rfl
            exact (Q_give g1 (s := 6) (y_set6 (by rw [g2]; exact hr)) (by omega) (j := 11) (by omega) (by omega) ((g5 (13 + e) 9 (by omega)).trans ((h.1.2.2.1 e he6).2.2.2.2.2.2.2.2.1.trans (g4 14 e (by omega)).symm))).1
          · rw [if_neg q4]
            by_cases w1 : a < 2
            · rw [if_pos w1]; exact hm1
            · rw [if_neg w1, if_pos (by rw [l4]; rw [l2] at w1; rw [e2] at q2; rw [e3] at q3; rw [e4] at q4; omega)]
              exact hm1
theorem S_open {n : Nat} {c r : eb_St} (h : Q n 6 0 0 c r) (a : Int32) : m_X9_isOpenWord c a = m_X10_isOpen r a ∧ (m_X10_isOpen r a = true → ∃ i, i + 8 ≤ 65536 ∧ i % 8 = 0 ∧ a = nI i) := by
  have hE := h.1.2.2.1
  have hG := h.1.2.2.2.2.1.2
  have F : ∀ d k, k + d = 6 → m_X10_isOpen_25 (d + 1) r a false (nI k) = false := by
    intro d k hk
    rw [m_X10_isOpen_25]
    by_cases q : (6 : Int32) ≤ nI k
    · rw [if_pos q]
    · rw [if_neg q, if_pos (by decide)]
  unfold m_X9_isOpenWord m_X10_isOpen
  by_cases h0 : a < 0
  · rw [if_pos h0, if_pos h0, show m_X10_isOpen_25 7 r a false 0 = false from F 6 0 (by omega)]
    exact ⟨rfl, fun z => absurd z (by decide)⟩
  rw [if_neg h0, if_neg h0]
  by_cases h1 : (65536 : Int32) ≤ a
  · rw [if_pos h1, if_pos h1, show m_X10_isOpen_25 7 r a false 0 = false from F 6 0 (by omega)]
    exact ⟨rfl, fun z => absurd z (by decide)⟩
  rw [if_neg h1, if_neg h1]
  obtain ⟨i, hi, rfl⟩ := nI_of h0
  have hi2 : i < 65536 := Nat.lt_of_not_le (fun z => h1 (nI_le (a := 65536) z (by omega)))
  rw [show nI i - nI i / 8 * 8 = nI (i % 8) from pk_rem (d := 8) (by omega) (by omega) (by omega)]
  by_cases h8 : i % 8 = 0
  · rw [if_pos ((y_and7 (by omega)).mpr h8), if_pos (show nI (i % 8) = 0 by rw [h8]; rfl)]
    refine ⟨?_, fun _ => ⟨i, by omega, h8, rfl⟩⟩
    have G : ∀ d k, k + d = 6 → (m_X10_isOpen_25 (d + 1) r (nI i) true (nI k) = true ↔ ¬ ∃ e, k ≤ e ∧ e < 6 ∧ ¬ c.1 (13 + e) 1 = 0 ∧ m_X8_meet (nI i).toInt64 8 (c.1 (13 + e) 2).toInt64 (c.1 (13 + e) 3).toInt64 = true) := by
      intro d
      induction d with
      | zero =>
        intro k hk
        rw [m_X10_isOpen_25, if_pos (show (6 : Int32) ≤ nI k from nI_le (a := 6) (by omega) (by omega))]
        exact ⟨fun _ ⟨e, a1, a2, _⟩ => absurd a2 (by omega), fun _ => rfl⟩
      | succ d ih =>
        intro k hk
        have hn := ih (k + 1) (by omega)
        have hno : ∀ P : Prop, (P ↔ ¬ ∃ e, k + 1 ≤ e ∧ e < 6 ∧ ¬ c.1 (13 + e) 1 = 0 ∧ m_X8_meet (nI i).toInt64 8 (c.1 (13 + e) 2).toInt64 (c.1 (13 + e) 3).toInt64 = true) → ¬ (¬ c.1 (13 + k) 1 = 0 ∧ m_X8_meet (nI i).toInt64 8 (c.1 (13 + k) 2).toInt64 (c.1 (13 + k) 3).toInt64 = true) → (P ↔ ¬ ∃ e, k ≤ e ∧ e < 6 ∧ ¬ c.1 (13 + e) 1 = 0 ∧ m_X8_meet (nI i).toInt64 8 (c.1 (13 + e) 2).toInt64 (c.1 (13 + e) 3).toInt64 = true) := fun P hP hq => by
          rw [hP]
          constructor
          · rintro z ⟨e, a1, a2, a3⟩
            rcases Nat.lt_or_ge k e with w | w
            · exact z ⟨e, by omega, a2, a3⟩
            · have : e = k := by omega
              subst this
              exact hq a3
          · rintro z ⟨e, a1, a2, a3⟩
            exact z ⟨e, by omega, a2, a3⟩
        rw [m_X10_isOpen_25, if_neg (show ¬ (6 : Int32) ≤ nI k from nI_ge (b := 6) (by omega) (by omega)), if_neg (show ¬ eb_b true = 0 by decide)]
        unfold m_X10_isLive
        rw [nI_clamp (by omega), nI_1]
        dsimp only
        obtain ⟨e1, e2, e3, _⟩ := hE k (by omega)
        by_cases hl : r.1 6 k = 0
        · rw [if_pos hl, if_pos (show eb_b false = 0 by decide)]
          exact hno _ hn (fun z => z.1 (e1.trans hl))
        · rw [if_neg hl, if_neg (show ¬ eb_b true = 0 by decide)]
          obtain ⟨B, S, b1, b2, b3, b4, b5, b6⟩ := y_geo (hG k (by omega) hl).1 (by omega)
          rw [b1, b2]
          have hmeet : m_X8_meet (nI i).toInt64 8 (c.1 (13 + k) 2).toInt64 (c.1 (13 + k) 3).toInt64 = true ↔ (B ≤ i ∧ i < B + S) := by
            rw [e2, e3, b1, b2, nI_l (by omega), nI_l (by omega), nI_l (by omega)]
            unfold m_X8_meet
            rw [lN_add, show lN i + 8 = lN (i + 8) from lN_add i 8]
            by_cases q1 : lN (B + S) ≤ lN i
            · rw [if_pos q1]
              rw [pk_lLE (by omega) (by omega)] at q1
              exact ⟨fun z => absurd z (by decide), fun z => by omega⟩
            · rw [if_neg q1]
              rw [pk_lLE (by omega) (by omega)] at q1
              by_cases q2 : lN (i + 8) ≤ lN B
              · rw [if_pos q2]
                rw [pk_lLE (by omega) (by omega)] at q2
                exact ⟨fun z => absurd z (by decide), fun z => by omega⟩
              · rw [if_neg q2]
                rw [pk_lLE (by omega) (by omega)] at q2
                exact ⟨fun _ => by omega, fun _ => rfl⟩
          rw [nI_add]
          by_cases q1 : nI i < nI B
          · rw [if_pos q1]
            rw [nI_ltI (by omega) (by omega)] at q1
            exact hno _ hn (fun z => by have := hmeet.mp z.2; omega)
          · rw [if_neg q1]
            rw [nI_ltI (by omega) (by omega)] at q1
            by_cases q2 : nI i < nI (B + S)
            · rw [if_pos q2, F d (k + 1) (by omega)]
              rw [nI_ltI (by omega) (by omega)] at q2
              exact ⟨fun z => absurd z (by decide), fun z => absurd ⟨k, by omega, by omega, by rw [e1]; exact hl, hmeet.mpr ⟨by omega, q2⟩⟩ z⟩
            · rw [if_neg q2]
              rw [nI_ltI (by omega) (by omega)] at q2
              exact hno _ hn (fun z => by have := hmeet.mp z.2; omega)
    have g := G 6 0 (by omega)
    have b : m_X5_meetsLiveMemory c (nI i).toInt64 8 = true ↔ _ := y_mlm (c := c) (x := (nI i).toInt64) (y := 8) 6 0 (by omega)
    apply Bool.eq_iff_iff.mpr
    rw [show m_X10_isOpen_25 7 r (nI i) true 0 = m_X10_isOpen_25 (6 + 1) r (nI i) true (nI 0) from rfl, g, ← b]
    dsimp only
    cases m_X5_meetsLiveMemory c (nI i).toInt64 8 <;> simp [eb_b]
  · rw [if_neg (fun z => h8 ((y_and7 (by omega)).mp z)), if_neg (show ¬ nI (i % 8) = 0 from nI_ne0 (by omega) (by omega)), show m_X10_isOpen_25 7 r (nI i) false 0 = false from F 6 0 (by omega)]
    exact ⟨rfl, fun z => absurd z (by decide)⟩
