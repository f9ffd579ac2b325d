/-! a step, and runs of steps -/
def yHost : Prop := ∀ (n : Nat) (c r : eb_St), Q n 6 1 4 c r → r.1 0 8 = -1 → r.1 0 4 = 0 → Q n 6 1 4 (m_X5_answerHost c) (m_X10_hostCalls r)
theorem Q_mono {n n' t : Nat} {u : Int32} {v : Int64} {c r : eb_St} (h : Q n t u v c r) (hn : n ≤ n') : Q n' t u v c r := by
  obtain ⟨⟨m, x, e, s, i, p, l⟩, T, F⟩ := h
  obtain ⟨s1, s2, s3, s4, s5, s6, s7, s8, s9, s10, s11, s12, s13, s14, s15, s16, s17, s18, s19, s20, s21, s22⟩ := s
  exact ⟨⟨m, x, e, ⟨s1, s2, s3, s4, s5, s6, s7, s8, s9, s10, s11, s12, s13, s14, s15, s16, s17, s18, s19, s20, s21, by omega⟩, i, p, l⟩, T, F⟩
theorem Q_tick {n t : Nat} {v : Int64} {c r : eb_St} (h : Q n t 0 v c r) : Q n t 0 v (eb_pI c 8 6 (c.1 8 6 + 1)) (eb_pI r 0 9 (r.1 0 9 + 1)) := by
  obtain ⟨s1, s2, s3, s4, s5, s6, s7, s8, s9, s10, s11, s12, s13, s14, s15, s16, s17, s18, s19, s20, s21, s22⟩ := h.1.2.2.2.1
  refine Q_sc h (fun q b _ h8 _ _ => pI_o h8) (fun q b _ _ _ _ _ _ => rfl) (fun q b h0 => pI_o h0) (fun q b _ _ _ => rfl) rfl rfl (Or.inl rfl) ⟨s1, s2, s3, s4, ?_, s6, s7, s8, s9, s10, s11, s12, s13, s14, s15, s16, s17, s18, s19, s20, s21, s22⟩ (qX_fr h.1.2.1 (fun q b hq => rfl) (fun b => rfl) (fun q b hq => rfl)) h.1.2.2.2.2.1.1
  show c.1 8 6 + 1 = r.1 0 9 + 1 + 0
  rw [s5, Int32.add_zero, Int32.add_zero]
theorem Q_tickC {n t : Nat} {v : Int64} {c r : eb_St} (h : Q n t 0 v c r) : Q n t 1 v (eb_pI c 8 6 (c.1 8 6 + 1)) r := by
  obtain ⟨s1, s2, s3, s4, s5, s6, s7, s8, s9, s10, s11, s12, s13, s14, s15, s16, s17, s18, s19, s20, s21, s22⟩ := h.1.2.2.2.1
  refine Q_sc h (fun q b _ h8 _ _ => pI_o h8) (fun q b _ _ _ _ _ _ => rfl) (fun q b h0 => rfl) (fun q b _ _ _ => rfl) rfl rfl (Or.inl rfl) ⟨s1, s2, s3, s4, ?_, s6, s7, s8, s9, s10, s11, s12, s13, s14, s15, s16, s17, s18, s19, s20, s21, s22⟩ (qX_fr h.1.2.1 (fun q b hq => rfl) (fun b => rfl) (fun q b hq => rfl)) h.1.2.2.2.2.1.1
  show c.1 8 6 + 1 = r.1 0 9 + 1
  rw [s5, Int32.add_zero]
theorem Q_tickR {n t : Nat} {v : Int64} {c r : eb_St} (h : Q n t 1 v c r) : Q n t 0 v c (eb_pI r 0 9 (r.1 0 9 + 1)) := by
  obtain ⟨s1, s2, s3, s4, s5, s6, s7, s8, s9, s10, s11, s12, s13, s14, s15, s16, s17, s18, s19, s20, s21, s22⟩ := h.1.2.2.2.1
  refine Q_sc h (fun q b _ _ _ _ => rfl) (fun q b _ _ _ _ _ _ => rfl) (fun q b h0 => pI_o h0) (fun q b _ _ _ => rfl) rfl rfl (Or.inl rfl) ⟨s1, s2, s3, s4, ?_, s6, s7, s8, s9, s10, s11, s12, s13, s14, s15, s16, s17, s18, s19, s20, s21, s22⟩ (qX_fr h.1.2.1 (fun q b hq => rfl) (fun b => rfl) (fun q b hq => rfl)) h.1.2.2.2.2.1.1
  show c.1 8 6 = r.1 0 9 + 1 + 0
  rw [s5, Int32.add_zero]
theorem Q_halt {n : Nat} {u : Int32} {c r : eb_St} (h : Q n 6 u 0 c r) (hr : r.1 0 8 = -1) (hv : c.2 9 4 = r.2 0 36) (f : Int32) : Q n 6 u 0 (m_X9_halt c f) (m_X10_fails r f) := by
  obtain ⟨s1, s2, s3, s4, s5, s6, s7, s8, s9, s10, s11, s12, s13, s14, s15, s16, s17, s18, s19, s20, s21, s22⟩ := h.1.2.2.2.1
  have hR := h.1.2.2.2.2.1.1
  have hpc : r.2 3 6 = c.2 25 1 := Q_pc0 h (s := 6) (by omega) (Or.inl rfl)
  unfold m_X9_halt m_X10_fails
  rw [hr, if_pos (show (-1 : Int32) < 0 by decide)]
  by_cases m0 : r.1 0 4 = 0
  · rw [if_pos m0, if_neg (show ¬ c.1 9 3 = 3 by rw [(Q_md h).1 m0]; decide)]
    exact Q_sc h (fun q b h0 _ _ _ => (pI_o h0).trans (pI_o h0)) (fun q b _ h0 _ _ _ _ => pJ_o h0) (fun q b h0 => (pI_o h0).trans (pI_o h0)) (fun q b h0 _ _ => pJ_o h0) rfl rfl (Or.inl rfl) ⟨rfl, rfl, hv, s4, s5, s6, s7, s8, s9, s10, s11, s12, s13, s14, s15, s16, s17, s18, s19, s20, s21, s22⟩ (qX_fr h.1.2.1 (fun q b hq => pJ_o (by omega)) (fun b => rfl) (fun q b hq => pJ_o (by omega))) hR
  · rw [if_neg m0, if_pos ((Q_md h).2 m0).1]
    unfold m_X1_trap
    dsimp only
    refine Q_sc h (fun q b h0 _ _ _ => (pI_o h0).trans ((pI_o h0).trans (pI_o h0))) (fun q b _ h0 h8 _ _ _ => (pJ_o h8).trans ((pJ_o h8).trans ((pJ_o h8).trans (pJ_o (σ := eb_pI c 0 7 f) h0)))) (fun q b h0 => (pI_o h0).trans (pI_o h0)) (fun q b h0 _ _ => (pJ_o h0).trans ((pJ_o h0).trans ((pJ_o h0).trans (pJ_o (σ := eb_pI r 0 6 f) h0)))) rfl rfl (Or.inl rfl) ⟨rfl, rfl, hv, s4, s5, s6, s7, s8, s9, s10, s11, s12, s13, s14, ?_, rfl, hv, s18, s19, s20, s21, s22⟩ (qX_fr h.1.2.1 (fun q b hq => (pJ_o (by omega)).trans ((pJ_o (by omega)).trans ((pJ_o (by omega)).trans (pJ_o (σ := eb_pI c 0 7 f) (by omega))))) (fun b => rfl) (fun q b hq => (pJ_o (by omega)).trans ((pJ_o (by omega)).trans ((pJ_o (by omega)).trans (pJ_o (σ := eb_pI r 0 6 f) (by omega)))))) hR
    show c.2 25 1 &&& (-4) = r.2 3 6 &&& (-4)
    rw [hpc]
theorem Q_pcR {n t : Nat} {u : Int32} {c r : eb_St} (h : Q n t u 0 c r) {x : Int64} (hx : x = c.2 25 1 + 4) : Q n t u 4 c (eb_pJ r 3 6 x) := by
  have k := Q_pc (v' := 4) h (s := 6) (by omega) (c.2 25 1) x (Or.inl ⟨rfl, hx⟩)
  have e : eb_pJ c (19 + 6) 1 (c.2 25 1) = c := Prod.ext rfl (funext fun a => funext fun b => by
    show (if a = 25 ∧ b = 1 then c.2 25 1 else c.2 a b) = c.2 a b
    by_cases z : a = 25 ∧ b = 1
    · rw [if_pos z, z.1, z.2]
    · rw [if_neg z])
  rw [e] at k
  exact k
theorem Q_pcC {n t : Nat} {u : Int32} {c r : eb_St} (h : Q n t u 4 c r) : Q n t u 0 (eb_pJ c 25 1 (c.2 25 1 + 4)) r := by
  have e0 := (h.1.2.1 6 (by omega) (Or.inl rfl)).2
  rw [if_pos rfl] at e0
  have k := Q_pc (v' := 0) h (s := 6) (by omega) (c.2 25 1 + 4) (r.2 3 6) (Or.inl ⟨rfl, by rw [e0, Int64.add_zero]⟩)
  have e : eb_pJ r 3 6 (r.2 3 6) = r := Prod.ext rfl (funext fun a => funext fun b => by
    show (if a = 3 ∧ b = 6 then r.2 3 6 else r.2 a b) = r.2 a b
    by_cases z : a = 3 ∧ b = 6
    · rw [if_pos z, z.1, z.2]
    · rw [if_neg z])
  rw [e] at k
  exact k
theorem Q_own {n e : Nat} {u : Int32} {v : Int64} {c r : eb_St} (h : Q n e u v c r) (he : e < 6) : Q n 6 u v (eb_pJ (eb_pI c (13 + e) 8 (c.1 (13 + e) 8 + 1)) 10 8 (c.2 10 8 + 1)) r ∧ 1 ≤ (r.1 0 32).toInt := by
  obtain ⟨⟨m, x, E, s, i, p, l⟩, T, F⟩ := h
  obtain ⟨s1, s2, s3, s4, s5, s6, s7, s8, s9, s10, s11, s12, s13, s14, s15, s16, s17, s18, s19, s20, s21, s22⟩ := s
  rw [if_pos he] at s20 s21
  refine ⟨⟨⟨qM_fr m (fun b => pJ_o (by omega)) (fun b => rfl), qX_fr x (fun q b hq => pJ_o (by omega)) (fun b => rfl) (fun q b _ => rfl), fun k hk => ?_, ?_, i, qP_fr p (fun b => pI_o (by omega)) (fun b => pJ_o (by omega)) (fun b => rfl) (fun b => rfl), qL_fr l (fun q b hq => pI_o (by omega)) (fun b => pJ_o (by omega))⟩, qT_fr T (fun b => pI_o (by omega)) (fun b => pJ_o (by omega)) rfl (fun q b _ => rfl) (fun b => rfl), fun hf k hk => ?_⟩, s21⟩
  · obtain ⟨e1, e2, e3, e4, e5, e6, e7, e8, e9, e10⟩ := E k hk
    have f : ∀ b, ¬ b = 8 → (eb_pJ (eb_pI c (13 + e) 8 (c.1 (13 + e) 8 + 1)) 10 8 (c.2 10 8 + 1)).1 (13 + k) b = c.1 (13 + k) b := fun b hb => pI_p hb
    have f2 : ∀ b, (eb_pJ (eb_pI c (13 + e) 8 (c.1 (13 + e) 8 + 1)) 10 8 (c.2 10 8 + 1)).2 (13 + k) b = c.2 (13 + k) b := fun b => pJ_o (by omega)
    rw [f 1 (by omega), f 2 (by omega), f 3 (by omega), f 4 (by omega), f 5 (by omega), f 6 (by omega), f 7 (by omega), f2, f2]
    refine ⟨e1, e2, e3, e4, e5, e6, e7, ?_, e9, e10⟩
    rw [if_neg (show ¬ k = 6 by omega), Int32.add_zero, e8]
    by_cases q : k = e
    · rw [if_pos q, q]; simp [eb_pJ, eb_pI]
    · rw [if_neg q, Int32.add_zero]
      have : (eb_pJ (eb_pI c (13 + e) 8 (c.1 (13 + e) 8 + 1)) 10 8 (c.2 10 8 + 1)).1 (13 + k) 8 = c.1 (13 + k) 8 := pI_o (by omega)
      rw [this]
  · have f : ∀ q b, q < 13 → (eb_pJ (eb_pI c (13 + e) 8 (c.1 (13 + e) 8 + 1)) 10 8 (c.2 10 8 + 1)).1 q b = c.1 q b := fun q b hq => pI_o (by omega)
    unfold qS
    rw [f 0 6 (by omega), f 0 7 (by omega), f 10 6 (by omega), f 8 6 (by omega), f 10 10 (by omega), f 10 11 (by omega), f 10 12 (by omega), f 10 13 (by omega), f 10 9 (by omega), f 9 3 (by omega), f 8 1 (by omega)]
    refine ⟨s1, s2, s3, s4, s5, s6, s7, s8, s9, s10, s11, s12, s13, s14, s15, s16, s17, s18, s19, ?_, ?_, s22⟩
    · rw [if_neg (by omega), Int64.add_zero, s20]
      simp [eb_pJ]
    · rw [if_neg (by omega)]; omega
  · have f : ∀ q b, q < 13 → (eb_pJ (eb_pI c (13 + e) 8 (c.1 (13 + e) 8 + 1)) 10 8 (c.2 10 8 + 1)).1 q b = c.1 q b := fun q b hq => pI_o (by omega)
    rw [f 6 k (by omega), f 7 k (by omega)]
    exact F hf k hk
theorem Q_ahead {n e : Nat} {u : Int32} {v : Int64} {c r : eb_St} (h : Q n 6 u v c r) (he : e < 6) (hn : n < 2147483647) : Q (n + 1) e u v c (eb_pI (eb_pI r 13 e (r.1 13 e + 1)) 0 32 (r.1 0 32 + 1)) := by
  obtain ⟨⟨m, x, E, s, ⟨i, g⟩, p, l⟩, T, F⟩ := h
  obtain ⟨s1, s2, s3, s4, s5, s6, s7, s8, s9, s10, s11, s12, s13, s14, s15, s16, s17, s18, s19, s20, s21, s22⟩ := s
  rw [if_neg (by omega)] at s20 s21
  rw [Int64.add_zero] at s20
  have f : ∀ q b, ¬ (q = 0 ∧ b = 32) → ¬ q = 13 → (eb_pI (eb_pI r 13 e (r.1 13 e + 1)) 0 32 (r.1 0 32 + 1)).1 q b = r.1 q b := fun q b h1 h2 => (if_neg h1).trans (pI_o h2)
  have i32 : (r.1 0 32 + 1).toInt = (r.1 0 32).toInt + 1 := by
    rw [eb_addI, show (1 : Int32).toInt = 1 by decide]
    · rw [show (1 : Int32).toInt = 1 by decide]; omega
    · rw [show (1 : Int32).toInt = 1 by decide]; omega
  have e32 : (eb_pI (eb_pI r 13 e (r.1 13 e + 1)) 0 32 (r.1 0 32 + 1)).1 0 32 = r.1 0 32 + 1 := rfl
  refine ⟨⟨qM_fr m (fun b => rfl) (fun b => f _ _ (by omega) (by omega)), qX_fr x (fun q b hq => rfl) (fun b => f _ _ (by omega) (by omega)) (fun q b _ => rfl), fun k hk => ?_, ?_, ⟨?_, fun k hk => ?_⟩, qP_fr p (fun b => rfl) (fun b => rfl) (fun b => f _ _ (by omega) (by omega)) (fun b => rfl), l⟩, qT_fr T (fun b => rfl) (fun b => rfl) (f _ _ (by omega) (by omega)) (fun q b hq => f _ _ (by omega) (by omega)) (fun b => rfl), fun hf k hk => ?_⟩
  · obtain ⟨e1, e2, e3, e4, e5, e6, e7, e8, e9, e10⟩ := E k hk
    rw [f 6 k (by omega) (by omega), f 7 k (by omega) (by omega), f 8 k (by omega) (by omega), f 9 k (by omega) (by omega), f 10 k (by omega) (by omega), f 11 k (by omega) (by omega), f 12 k (by omega) (by omega)]
    refine ⟨e1, e2, e3, e4, e5, e6, e7, ?_, e9, e10⟩
    rw [if_neg (show ¬ k = 6 by omega), Int32.add_zero] at e8
    by_cases q : k = e
    · rw [if_pos q, q, ← q, ← e8, q]; simp [eb_pI]
    · rw [if_neg q, Int32.add_zero, ← e8, pI_o (by omega), pI_p q]
  · unfold qS
    rw [f 0 5 (by omega) (by omega), f 0 6 (by omega) (by omega), f 0 8 (by omega) (by omega), f 0 9 (by omega) (by omega), f 0 10 (by omega) (by omega), f 0 11 (by omega) (by omega), f 0 12 (by omega) (by omega), f 0 13 (by omega) (by omega), f 0 14 (by omega) (by omega), f 0 4 (by omega) (by omega), e32]
    refine ⟨s1, s2, s3, s4, s5, s6, s7, s8, s9, s10, s11, s12, s13, s14, s15, s16, s17, s18, s19, ?_, ?_, ?_⟩
    · rw [if_pos he, ← s20]
      apply Int64.toInt_inj.mp
      have := ym_add (ym_0 (r.1 0 32).toInt64) (ym_0 1)
      rw [Int32.toInt_toInt64, show (1 : Int64).toInt = 1 by decide] at this
      rw [Int32.toInt_toInt64, ym_i this (by omega) (by omega), i32]
    · rw [if_pos he, i32]; omega
    · rw [i32]; omega
  · unfold qR
    rw [f 0 8 (by omega) (by omega), f 0 4 (by omega) (by omega)]
    rcases i with i | ⟨k, hk, i⟩
    · exact Or.inl i
    · exact Or.inr ⟨k, hk, by rw [f 6 k (by omega) (by omega)]; exact i⟩
  · rw [f 6 k (by omega) (by omega), f 7 k (by omega) (by omega), f 8 k (by omega) (by omega), f 10 k (by omega) (by omega), f 11 k (by omega) (by omega)]
    exact g k hk
  · rw [f 0 35 (by omega) (by omega)] at hf
    exact F hf k hk
theorem Q_bound {n e : Nat} {c r : eb_St} (h : Q n 6 0 0 c r) (he : e < 6) (h32 : 1 ≤ (r.1 0 32).toInt) : Q n 6 0 0 (m_X5_settleStay_113 c) (m_X10_step_98 r (nI e)) ∨ ¬ (r.1 0 8 = nI e ∨ r.1 0 8 = -1) := by
  obtain ⟨s1, s2, s3, s4, s5, s6, s7, s8, s9, s10, s11, s12, s13, s14, s15, s16, s17, s18, s19, s20, s21, s22⟩ := h.1.2.2.2.1
  rw [if_neg (by omega), Int64.add_zero] at s20
  by_cases h8 : r.1 0 8 = nI e ∨ r.1 0 8 = -1
  · left
    unfold m_X5_settleStay_113 m_X10_step_98
    rw [if_neg (nI_pos (by omega))]
    have hne : ¬ nI e = -1 := fun q => absurd (nI_pos (n := e) (by omega)) (by rw [q]; decide)
    rcases h8 with h8 | h8
    · rw [if_neg (by rw [s4, h8]; exact hne), if_pos h8, ← s20, s19]
      by_cases b0 : r.2 0 31 = 0
      · rw [if_pos b0, b0, if_neg (fun z => by
          have := congrArg Int64.toInt z
          rw [Int32.toInt_toInt64, show (0 : Int64).toInt = 0 by decide] at this
          omega)]
        exact h
      · rw [if_neg b0]
        by_cases b1 : (r.1 0 32).toInt64 = r.2 0 31
        · rw [if_pos b1, if_pos b1]
          exact (Q_leave h (by rw [h8]; exact nI_pos (by omega)) (k := 1) (Or.inr (Or.inl rfl)) (a := 2) rfl 0).1
        · rw [if_neg b1, if_neg b1]
          exact h
    · rw [if_pos (by rw [s4, h8]), if_neg (by rw [h8]; exact fun z => hne z.symm)]
      exact h
  · exact Or.inr h8
