/-! an enclave is made -/
theorem y_beg (z : eb_St) {k : Nat} (hk : k < 6) (me key : Int64) {Sh : Int32} (hSh : Sh = if (z.2 11 6).toInt32 = 0 then 0 else (z.2 11 5).toInt32) : m_X2_begin z k me key = eb_pJ (fJ (eb_pJ (eb_pJ (eb_pI (eb_pI (eb_pI (eb_pI (eb_pI (eb_pI (eb_pI (eb_pI z (13 + k) 1 1) (13 + k) 2 ((z.2 11 0).toInt32)) (13 + k) 3 ((z.2 11 1).toInt32)) (13 + k) 4 ((z.2 11 4).toInt32)) (13 + k) 6 ((z.2 11 6).toInt32)) (13 + k) 5 Sh) (13 + k) 7 0) (13 + k) 8 0) (13 + k) 9 me) (13 + k) 10 key) (26 + k) 0 32 0) (19 + k) 1 (((z.2 11 0).toInt32 + (z.2 11 4).toInt32).toInt64) := by
  have e58 : ∀ s0 : Int32, m_X2_begin_58 (eb_pI (eb_pI (eb_pI (eb_pI (eb_pI z (13 + k) 1 1) (13 + k) 2 ((z.2 11 0).toInt32)) (13 + k) 3 ((z.2 11 1).toInt32)) (13 + k) 4 ((z.2 11 4).toInt32)) (13 + k) 6 ((z.2 11 6).toInt32)) k me key s0 k = eb_pJ (fJ (eb_pJ (eb_pJ (eb_pI (eb_pI (eb_pI (eb_pI (eb_pI (eb_pI (eb_pI (eb_pI z (13 + k) 1 1) (13 + k) 2 ((z.2 11 0).toInt32)) (13 + k) 3 ((z.2 11 1).toInt32)) (13 + k) 4 ((z.2 11 4).toInt32)) (13 + k) 6 ((z.2 11 6).toInt32)) (13 + k) 5 s0) (13 + k) 7 0) (13 + k) 8 0) (13 + k) 9 me) (13 + k) 10 key) (26 + k) 0 32 0) (19 + k) 1 (((z.2 11 0).toInt32 + (z.2 11 4).toInt32).toInt64) := fun s0 => by
    unfold m_X2_begin_58 m_X7_clear
    dsimp only
    rw [y_fillJ0 (by omega)]
    congr 1
    simp [eb_pI, eb_pJ]
  unfold m_X2_begin
  have e6 : (eb_pI (eb_pI (eb_pI (eb_pI (eb_pI z (13 + k) 1 1) (13 + k) 2 ((z.2 11 0).toInt32)) (13 + k) 3 ((z.2 11 1).toInt32)) (13 + k) 4 ((z.2 11 4).toInt32)) (13 + k) 6 ((z.2 11 6).toInt32)).1 (13 + k) 6 = (z.2 11 6).toInt32 := by simp [eb_pI]
  rw [e6, e58, e58, hSh]
  by_cases q : (z.2 11 6).toInt32 = 0
  · simp only [if_pos q]
  · simp only [if_neg q]
/-- the new enclave's words on both sides -/
theorem Qm_new {n : Nat} {u : Int32} {v : Int64} {c r c' r' : eb_St} (h : Qm n 6 u v c r) {k : Nat} (hk : k < 6) {B Sz En Sh Ss : Int32} {me ky pc : Int64}
    (hM : qM c' r')
    (c1 : c'.1 (13 + k) 1 = 1 ∧ c'.1 (13 + k) 2 = B ∧ c'.1 (13 + k) 3 = Sz ∧ c'.1 (13 + k) 4 = En ∧ c'.1 (13 + k) 5 = Sh ∧ c'.1 (13 + k) 6 = Ss ∧ c'.1 (13 + k) 7 = 0 ∧ c'.1 (13 + k) 8 = 0)
    (c1o : ∀ q b, ¬ q = 13 + k → ¬ (q = 10 ∧ b = 10) → c'.1 q b = c.1 q b) (c10 : c'.1 10 10 = c.1 10 10 + 1)
    (c2 : c'.2 (13 + k) 9 = me ∧ c'.2 (13 + k) 10 = ky ∧ c'.2 (19 + k) 1 = pc ∧ ∀ j, j < 32 → c'.2 (26 + k) j = 0)
    (c2o : ∀ q b, ¬ q = 2 → ¬ q = 11 → ¬ q = 13 + k → ¬ q = 19 + k → ¬ q = 26 + k → c'.2 q b = c.2 q b)
    (r1 : r'.1 6 k = 1 ∧ r'.1 7 k = B ∧ r'.1 8 k = Sz ∧ r'.1 9 k = En ∧ r'.1 10 k = Sh ∧ r'.1 11 k = Ss ∧ r'.1 12 k = 0 ∧ r'.1 13 k = 0)
    (r1o : ∀ q b, ¬ q = 1 → ¬ q = 17 → ¬ (q = 0 ∧ b = 10) → ¬ (q = 0 ∧ b = 35) → ¬ (6 ≤ q ∧ b = k) → r'.1 q b = r.1 q b) (r10 : r'.1 0 10 = r.1 0 10 + 1)
    (r2 : r'.2 14 k = me ∧ r'.2 3 k = pc ∧ ∀ j, j < 32 → r'.2 2 (32 * k + j) = 0)
    (r2o : ∀ q b, ¬ (q = 14 ∧ b = k) → ¬ (q = 3 ∧ b = k) → ¬ (q = 2 ∧ 32 * k ≤ b ∧ b < 32 * k + 32) → r'.2 q b = r.2 q b)
    (hky : ky = ykey (r.2 0 0) me) (hg : ygeo B Sz 5 14 ∧ ((Ss = 0 ∧ Sh = 0) ∨ ygeo Sh Ss 3 12)) : Qm n 6 u v c' r' := by
  obtain ⟨m, x, E, s, g, p, l⟩ := h
  obtain ⟨a1, a2, a3, a4, a5, a6, a7, a8⟩ := c1
  obtain ⟨b1, b2, b3, b4, b5, b6, b7, b8⟩ := r1
  obtain ⟨d1, d2, d3, d4⟩ := c2
  obtain ⟨f1, f2, f3⟩ := r2
  refine ⟨hM, fun s' hs' hl => ?_, fun e he => ?_, ?_, fun e he hl => ?_, fun i h0 hi => ?_, qL_fr l (fun q b hq => c1o _ _ (by omega) (by omega)) (fun b => c2o _ _ (by omega) (by omega) (by omega) (by omega) (by omega))⟩
  · by_cases q : s' = k
    · subst q
      refine ⟨fun j hj => by rw [d4 j hj, f3 j hj], ?_⟩
      rw [f2, d3, if_neg (by omega), Int64.add_zero]
    · have hl' : s' = 6 ∨ ¬ r.1 6 s' = 0 := by
        rcases hl with z | z
        · exact Or.inl z
        · rw [r1o 6 s' (by omega) (by omega) (by omega) (by omega) (by omega)] at z; exact Or.inr z
      obtain ⟨x1, x2⟩ := x s' hs' hl'
      refine ⟨fun j hj => ?_, ?_⟩
      · rw [c2o _ _ (by omega) (by omega) (by omega) (by omega) (by omega), r2o _ _ (by omega) (by omega) (by omega)]; exact x1 j hj
      · rw [c2o _ _ (by omega) (by omega) (by omega) (by omega) (by omega), r2o _ _ (by omega) (by omega) (by omega)]; exact x2
  · have r00 : r'.2 0 0 = r.2 0 0 := r2o _ _ (by omega) (by omega) (by omega)
    by_cases q : e = k
    · subst q
      rw [a1, a2, a3, a4, a5, a6, a7, a8, b1, b2, b3, b4, b5, b6, b7, b8, d1, d2, f1, r00, if_neg (by omega), Int32.add_zero]
      exact ⟨rfl, rfl, rfl, rfl, rfl, rfl, rfl, rfl, rfl, fun _ => hky⟩
    · have f : ∀ b, c'.1 (13 + e) b = c.1 (13 + e) b := fun b => c1o _ _ (by omega) (by omega)
      have f' : ∀ w, 6 ≤ w → ¬ w = 17 → r'.1 w e = r.1 w e := fun w h6 h17 => r1o _ _ (by omega) h17 (by omega) (by omega) (by omega)
      rw [f, f, f, f, f, f, f, f, f' 6 (by omega) (by omega), f' 7 (by omega) (by omega), f' 8 (by omega) (by omega), f' 9 (by omega) (by omega), f' 10 (by omega) (by omega), f' 11 (by omega) (by omega), f' 12 (by omega) (by omega), f' 13 (by omega) (by omega), c2o _ _ (by omega) (by omega) (by omega) (by omega) (by omega), c2o _ _ (by omega) (by omega) (by omega) (by omega) (by omega), r2o 14 e (by omega) (by omega) (by omega), r00]
      exact E e he
  · have f : ∀ q b, q < 13 → ¬ (q = 10 ∧ b = 10) → c'.1 q b = c.1 q b := fun q b h1 h2 => c1o _ _ (by omega) h2
    have f' : ∀ b, ¬ b = 10 → ¬ b = 35 → r'.1 0 b = r.1 0 b := fun b h1 h2 => r1o _ _ (by omega) (by omega) (by omega) (by omega) (by omega)
    have g2 : ∀ q b, q < 11 → ¬ q = 2 → c'.2 q b = c.2 q b := fun q b h1 h2 => c2o _ _ h2 (by omega) (by omega) (by omega) (by omega)
    have g2' : ∀ b, r'.2 0 b = r.2 0 b := fun b => r2o _ _ (by omega) (by omega) (by omega)
    obtain ⟨s1, s2, s3, s4, s5, s6, s7, s8, s9, s10, s11, s12, s13, s14, s15, s16, s17, s18, s19, s20, s21, s22⟩ := s
    unfold qS
    rw [f 0 6 (by omega) (by omega), f 0 7 (by omega) (by omega), f 10 6 (by omega) (by omega), f 8 6 (by omega) (by omega), c10, f 10 11 (by omega) (by omega), f 10 12 (by omega) (by omega), f 10 13 (by omega) (by omega), f 10 9 (by omega) (by omega), f 9 3 (by omega) (by omega), f 8 1 (by omega) (by omega), g2 0 8 (by omega) (by omega), g2 8 2 (by omega) (by omega), g2 8 3 (by omega) (by omega), g2 8 4 (by omega) (by omega), g2 8 5 (by omega) (by omega), g2 10 0 (by omega) (by omega), g2 10 7 (by omega) (by omega), g2 10 8 (by omega) (by omega), f' 5 (by omega) (by omega), f' 6 (by omega) (by omega), f' 8 (by omega) (by omega), f' 9 (by omega) (by omega), r10, f' 11 (by omega) (by omega), f' 12 (by omega) (by omega), f' 13 (by omega) (by omega), f' 14 (by omega) (by omega), f' 4 (by omega) (by omega), f' 32 (by omega) (by omega), g2', g2', g2', g2', g2', g2', g2', g2']
    exact ⟨s1, s2, s3, s4, s5, congrArg (· + 1) s6, s7, s8, s9, s10, s11, s12, s13, s14, s15, s16, s17, s18, s19, s20, s21, s22⟩
  · by_cases q : e = k
    · subst q
      rw [b2, b3, b5, b6]
      exact hg
    · have f' : ∀ w, 6 ≤ w → ¬ w = 17 → r'.1 w e = r.1 w e := fun w h6 h17 => r1o _ _ (by omega) h17 (by omega) (by omega) (by omega)
      rw [f' 6 (by omega) (by omega)] at hl
      rw [f' 7 (by omega) (by omega), f' 8 (by omega) (by omega), f' 10 (by omega) (by omega), f' 11 (by omega) (by omega)]
      exact g e he hl
  · rw [c1o _ _ (by omega) (by omega), c2o _ _ (by omega) (by omega) (by omega) (by omega) (by omega), r1o _ _ (by omega) (by omega) (by omega) (by omega) (by omega), r2o _ _ (by omega) (by omega) (by omega)]
    exact p i h0 hi
