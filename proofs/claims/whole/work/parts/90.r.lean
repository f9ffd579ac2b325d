/-! the step -/
theorem y_98 (r : eb_St) : m_X10_step_98 r (-1) = r := by
  unfold m_X10_step_98
  rw [if_pos (by decide)]
theorem Q_c6 {n t : Nat} {u : Int32} {v : Int64} {c r : eb_St} (h : Q n t u v c r) : c.1 10 6 = r.1 0 8 := h.1.2.2.2.1.2.2.2.1
theorem y_sys115 {n t s : Nat} {c r : eb_St} (h : yD n t 0 s 115 c r) (p : Int64) : m_X10_system r p = (if (r.1 0 4) = 0 then (if (r.1 0 8) < 0 then ((-1), m_X10_hostCalls (eb_pJ r 3 (m_X10_set r).toNatClampNeg (p + 4))) else ((-1), m_X10_enclaveCalls (eb_pJ r 3 (m_X10_set r).toNatClampNeg (p + 4)))) else m_X10_fault r 11 0) := by
  have h41 : r.1 0 41 = 0 := h.2.2.2.2.2.2.1.trans (by decide)
  have h37 := h.2.2.2.2.1
  unfold m_X10_system
  rw [h41, h37, if_neg (show ¬ (0 : Int32) = 4 by decide), if_pos rfl, if_pos rfl]
theorem Q_hstep (HH : yHost) {n : Nat} {c r : eb_St} (h : Q n 6 0 0 c r) (hr : r.1 0 8 = -1) : Q n 6 0 0 (m_X9_settle (m_X3_execute c 6).2 (m_X3_execute c 6).1) (m_X10_step_68 r (-1)) := by
  have h0 := Q_r36 h 0
  have ex := O_exec h0 (s := 6) (by omega) (y_set6 hr) (Or.inl rfl)
  unfold m_X10_step_68
  dsimp only
  simp only [y_98]
  rcases ex with ⟨b8, k⟩ | ⟨c1, r1, hD, h8, ec, er⟩
  · generalize m_X3_execute c 6 = a at k ⊢
    generalize m_X10_instruction (eb_pJ r 0 36 0) = b at b8 k ⊢
    have b8' : b.2.1 0 8 = -1 := b8.trans hr
    rcases k with ⟨k1, k2, k3⟩ | ⟨k1, k2, k3, k4, k5⟩
    · unfold m_X9_settle m_X9_settle_76
      rw [k1, k2, Q_c6 k3, b8', if_pos rfl, if_pos rfl, if_pos rfl, if_neg (show ¬ (-1 : Int32) = 11 by decide)]
      exact Q_tick k3
    · unfold m_X9_settle m_X9_settle_76
      rw [k3, Q_c6 k5, b8', if_pos rfl, if_neg k2, if_neg k1, if_neg k1]
      exact Q_halt (Q_tick k5) b8' k4 a.1
  · rw [ec, er, y_sys115 hD]
    have h8' : r1.1 0 8 = -1 := h8.trans hr
    have hQ1 := hD.1
    dsimp only
    unfold m_X9_settle m_X9_settle_76
    rw [show (eb_pJ c1 9 4 0).1 10 6 = -1 from (Q_c6 hQ1).trans h8', if_pos rfl, if_pos rfl, if_neg (show ¬ (11 : Int32) = -1 by decide)]
    by_cases m0 : r1.1 0 4 = 0
    · rw [if_pos m0, if_pos (show r1.1 0 8 < 0 by rw [h8']; decide), if_pos (show (eb_pJ c1 9 4 0).1 9 3 = 0 from (Q_md hQ1).1 m0), hD.2.2.1, if_pos rfl]
      have q1 : Q n 6 1 4 (eb_pI (eb_pJ c1 9 4 0) 8 6 ((eb_pJ c1 9 4 0).1 8 6 + 1)) (eb_pJ r1 3 6 (c1.2 (19 + 6) 1 + 4)) := Q_pcR (Q_tickC (Q_c9 hQ1 4 0)) rfl
      exact Q_tickR (Q_pcC (HH n _ _ q1 h8' m0))
    · rw [if_neg m0, if_neg (show ¬ (eb_pJ c1 9 4 0).1 9 3 = 0 by rw [show (eb_pJ c1 9 4 0).1 9 3 = 3 from ((Q_md hQ1).2 m0).1]; decide)]
      unfold m_X10_fault
      dsimp only
      rw [if_neg (show ¬ (11 : Int32) = -1 by decide)]
      exact Q_halt (Q_tick (Q_r36 (Q_c9 hQ1 4 0) 0)) h8' rfl 11
theorem Q_estep {n e : Nat} {c r : eb_St} (h : Q n 6 0 0 c r) (he : e < 6) (hr : r.1 0 8 = nI e) (hn : n < 2147483647) : Q (n + 1) 6 0 0 (m_X9_settle (m_X3_execute c e).2 (m_X3_execute c e).1) (m_X10_step_68 (eb_pI (eb_pI r 13 e (r.1 13 e + 1)) 0 32 (r.1 0 32 + 1)) (nI e)) := by
  have hne : ¬ nI e = -1 := fun q => absurd (nI_pos (n := e) (by omega)) (by rw [q]; decide)
  obtain ⟨e', he', h8e, hc6, hl, hm0⟩ := Q_run h (by rw [hr]; exact nI_pos (by omega))
  have ee : e' = e := (nI_eq (by omega) (by omega)).mp (h8e.symm.trans hr)
  subst ee
  have hA := Q_r36 (Q_ahead h he hn) 0
  have hr2 : (eb_pJ (eb_pI (eb_pI r 13 e' (r.1 13 e' + 1)) 0 32 (r.1 0 32 + 1)) 0 36 0).1 0 8 = nI e' := hr
  have ex := O_exec hA (s := e') (by omega) (y_setE he hr2) (Or.inr hl)
  unfold m_X10_step_68
  dsimp only
  generalize eb_pJ (eb_pI (eb_pI r 13 e' (r.1 13 e' + 1)) 0 32 (r.1 0 32 + 1)) 0 36 0 = rA at hA hr2 ex ⊢
  rcases ex with ⟨b8, k⟩ | ⟨c1, r1, hD, h8, ec, er⟩
  · generalize m_X3_execute c e' = a at k ⊢
    generalize m_X10_instruction rA = b at b8 k ⊢
    have b8' : b.2.1 0 8 = nI e' := b8.trans hr2
    have fin : ∀ {c2 r2 : eb_St}, Q (n + 1) e' 0 0 c2 r2 → r2.1 0 8 = nI e' → ∀ o : Int32, m_X9_settle c2 o = m_X5_settleStay (eb_pI c2 8 6 (c2.1 8 6 + 1)) o ∧ m_X5_isPlace ((eb_pI c2 8 6 (c2.1 8 6 + 1)).1 10 6).toInt64 = m_X5_isPlace (nI e').toInt64 ∧ (eb_pI c2 8 6 (c2.1 8 6 + 1)).1 10 6 = nI e' := fun {c2 r2} q2 q8 o => by
      have hc : c2.1 10 6 = nI e' := (Q_c6 q2).trans q8
      refine ⟨?_, by rw [show (eb_pI c2 8 6 (c2.1 8 6 + 1)).1 10 6 = nI e' from hc], hc⟩
      unfold m_X9_settle
      rw [hc, if_neg hne]
    rcases k with ⟨k1, k2, k3⟩ | ⟨k1, k2, k3, k4, k5⟩
    · obtain ⟨f1, f2, f3⟩ := fin k3 b8' a.1
      rw [f1, k1, k2, if_pos rfl]
      obtain ⟨q1, q2⟩ := Q_own (Q_tick k3) he
      unfold m_X5_settleStay
      rw [f3]
      dsimp only
      rw [y_place he, if_neg (show ¬ (1 : Int32) = 0 by decide), nI_clamp (by omega), if_neg (show ¬ (-1 : Int32) = 11 by decide), if_pos rfl]
      exact (Q_bound q1 he q2).resolve_right (fun z => z (Or.inl b8'))
    · obtain ⟨f1, f2, f3⟩ := fin k5 b8' a.1
      rw [f1, k3, if_neg k1]
      obtain ⟨q1, q2⟩ := Q_own (Q_tick k5) he
      unfold m_X5_settleStay
      rw [f3]
      dsimp only
      rw [y_place he, if_neg (show ¬ (1 : Int32) = 0 by decide), nI_clamp (by omega), if_neg k2, if_neg k1]
      unfold m_X10_fails
      rw [show (eb_pI b.2 0 9 (b.2.1 0 9 + 1)).1 0 8 = nI e' from b8', if_neg (nI_pos (by omega))]
      obtain ⟨l1, l2⟩ := Q_leave q1 (by rw [show (eb_pI b.2 0 9 (b.2.1 0 9 + 1)).1 0 8 = nI e' from b8']; exact nI_pos (by omega)) (k := 2) (Or.inr (Or.inr rfl)) (a := 3) rfl a.1.toInt64
      have g : ∀ {c2 r2 : eb_St}, Q (n + 1) 6 0 0 c2 r2 → r2.1 0 8 = -1 → Q (n + 1) 6 0 0 (m_X5_settleStay_113 c2) (m_X10_step_98 r2 (nI e')) := fun {c2 r2} q2 q8 => by
        unfold m_X5_settleStay_113 m_X10_step_98
        rw [if_pos ((Q_c6 q2).trans q8), if_neg (nI_pos (by omega)), if_neg (by rw [q8]; exact fun z => hne z.symm)]
        exact q2
      exact g l1 l2
  · have h8' : r1.1 0 8 = nI e' := h8.trans hr2
    have hQ1 := hD.1
    obtain ⟨e2, he2, h8e2, hc62, hl2, hm02⟩ := Q_run hQ1 (by rw [h8']; exact nI_pos (by omega))
    have ee : e2 = e' := (nI_eq (by omega) (by omega)).mp (h8e2.symm.trans h8')
    subst ee
    rw [ec, er, y_sys115 hD, if_pos hm02, if_neg (show ¬ r1.1 0 8 < 0 by rw [h8']; exact nI_pos (by omega)), hD.2.2.1, nI_clamp (by omega)]
    dsimp only
    rw [if_pos rfl]
    have hc : (eb_pJ c1 9 4 0).1 10 6 = nI e2 := hc62
    have es : m_X9_settle (eb_pJ c1 9 4 0) 11 = m_X5_settleStay (eb_pI (eb_pJ c1 9 4 0) 8 6 ((eb_pJ c1 9 4 0).1 8 6 + 1)) 11 := by
      unfold m_X9_settle
      rw [hc, if_neg hne]
    rw [es]
    have qt := Q_tickC (Q_c9 hQ1 4 0)
    have ct : (eb_pI (eb_pJ c1 9 4 0) 8 6 ((eb_pJ c1 9 4 0).1 8 6 + 1)).1 10 6 = nI e2 := hc62
    have cpc : (eb_pI (eb_pJ c1 9 4 0) 8 6 ((eb_pJ c1 9 4 0).1 8 6 + 1)).2 (19 + e2) 1 = c1.2 (19 + e2) 1 := pJ_o (by omega)
    generalize eb_pI (eb_pJ c1 9 4 0) 8 6 ((eb_pJ c1 9 4 0).1 8 6 + 1) = ct0 at qt ct cpc ⊢
    obtain ⟨q1, q2⟩ := Q_own qt he
    have opc : (eb_pJ (eb_pI ct0 (13 + e2) 8 (ct0.1 (13 + e2) 8 + 1)) 10 8 (ct0.2 10 8 + 1)).2 (19 + e2) 1 = c1.2 (19 + e2) 1 := (pJ_o (by omega)).trans cpc
    have q3 := Q_pc q1 (s := e2) (by omega) (c1.2 (19 + e2) 1 + 4) (c1.2 (19 + e2) 1 + 4) (Or.inr ⟨by omega, rfl, rfl⟩)
    unfold m_X5_settleStay
    rw [ct]
    dsimp only
    rw [y_place he, if_neg (show ¬ (1 : Int32) = 0 by decide), nI_clamp (by omega), if_pos rfl, opc]
    generalize eb_pJ (eb_pJ (eb_pI ct0 (13 + e2) 8 (ct0.1 (13 + e2) 8 + 1)) 10 8 (ct0.2 10 8 + 1)) (19 + e2) 1 (c1.2 (19 + e2) 1 + 4) = c3 at q3 ⊢
    have r8 : (eb_pJ r1 3 e2 (c1.2 (19 + e2) 1 + 4)).1 0 8 = nI e2 := h8'
    have r6 : ¬ (eb_pJ r1 3 e2 (c1.2 (19 + e2) 1 + 4)).1 6 e2 = 0 := hl2
    have r32 : 1 ≤ ((eb_pJ r1 3 e2 (c1.2 (19 + e2) 1 + 4)).1 0 32).toInt := q2
    generalize eb_pJ r1 3 e2 (c1.2 (19 + e2) 1 + 4) = r3 at q3 r8 r6 r32 ⊢
    by_cases z1 : m_X7_get c3 e2 17 = 1
    · rw [if_pos z1]
      have hx : m_X10_x r3 17 = m_X7_get c3 e2 17 := y_x q3 (s := e2) (by omega) (y_setE he r8) (Or.inr r6) (j := 17) (by omega)
      have hx10 : m_X10_x r3 10 = m_X7_get c3 e2 10 := y_x q3 (s := e2) (by omega) (y_setE he r8) (Or.inr r6) (j := 10) (by omega)
      have ecl : m_X10_enclaveCalls r3 = m_X10_ends r3 2 0 (m_X7_get c3 e2 10) := by
        unfold m_X10_enclaveCalls
        dsimp only
        rw [hx, if_pos z1, hx10]
      rw [ecl]
      obtain ⟨l1, l2⟩ := Q_leave q3 (by rw [r8]; exact nI_pos (by omega)) (k := 0) (Or.inl rfl) (a := 2) rfl (m_X7_get c3 e2 10)
      have l1' := Q_tickR l1
      have e0 : (0 : Int32).toInt64 = 0 := rfl
      rw [e0] at l1' l2
      generalize m_X10_ends r3 2 0 (m_X7_get c3 e2 10) = r4 at l1' l2 ⊢
      unfold m_X5_settleStay_113 m_X10_step_98
      rw [if_pos ((Q_c6 l1').trans l2), if_neg (nI_pos (by omega)), if_neg (show ¬ (eb_pI r4 0 9 (r4.1 0 9 + 1)).1 0 8 = nI e2 from fun z => hne ((z.symm.trans l2)))]
      exact l1'
    · rw [if_neg z1]
      obtain ⟨a1, a2⟩ := Q_ans q3 he r8 r6 z1
      have a3 := Q_tickR a1
      refine (Q_bound a3 he ?_).resolve_right (fun z => z (Or.inl ?_))
      · show 1 ≤ ((m_X10_enclaveCalls r3).1 0 32).toInt
        rw [a2]; exact r32
      · show (m_X10_enclaveCalls r3).1 0 8 = nI e2
        rw [a2]; exact r8
theorem Q_int {n : Nat} {c r : eb_St} (h : Q n 6 0 0 c r) : ∃ r1, m_X10_step r = m_X10_step_39 r1 ∧ Q n 6 0 0 (m_X5_takeInterrupt c) r1 := by
  obtain ⟨s1, s2, s3, s4, s5, s6, s7, s8, s9, s10, s11, s12, s13, s14, s15, s16, s17, s18, s19, s20, s21, s22⟩ := h.1.2.2.2.1
  have hR := h.1.2.2.2.2.1.1
  unfold m_X10_step m_X5_takeInterrupt
  rw [s10]
  by_cases q : r.1 0 14 = 0
  · rw [if_pos q, if_pos q]; exact ⟨r, rfl, h⟩
  · rw [if_neg q, if_neg q, s4]
    have q1 : Q n 6 0 0 (eb_pI c 10 9 0) (eb_pI r 0 14 0) :=
      Q_sc h (fun q b _ _ _ h10 => pI_o h10) (fun q b _ _ _ _ _ _ => rfl) (fun q b h0 => pI_o h0) (fun q b _ _ _ => rfl) rfl rfl (Or.inl rfl) ⟨s1, s2, s3, s4, s5, s6, s7, s8, s9, rfl, s11, s12, s13, s14, s15, s16, s17, s18, s19, s20, s21, s22⟩ (qX_fr h.1.2.1 (fun q b hq => rfl) (fun b => rfl) (fun q b hq => rfl)) hR
    rcases hR with i | ⟨e, he, i, _⟩
    · rw [i, if_pos rfl, if_pos (by decide)]
      refine ⟨_, rfl, ?_⟩
      exact Q_sc q1 (fun q b _ _ _ h10 => pI_o h10) (fun q b _ _ _ _ _ _ => rfl) (fun q b h0 => pI_o h0) (fun q b _ _ _ => rfl) rfl rfl (Or.inl rfl) ⟨s1, s2, s3, s4, s5, s6, s7, s8, congrArg (· + 1) s9, rfl, s11, s12, s13, s14, s15, s16, s17, s18, s19, s20, s21, s22⟩ (qX_fr h.1.2.1 (fun q b hq => rfl) (fun b => rfl) (fun q b hq => rfl)) (Or.inl i)
    · have hne : ¬ nI e = -1 := fun q => absurd (nI_pos (n := e) (by omega)) (by rw [q]; decide)
      rw [i, if_neg hne, if_neg (nI_pos (by omega))]
      exact ⟨_, rfl, (Q_leave q1 (by rw [show (eb_pI r 0 14 0).1 0 8 = nI e from i]; exact nI_pos (by omega)) (k := 1) (Or.inr (Or.inl rfl)) (a := 2) rfl 0).1⟩
theorem Q_step (HH : yHost) {n : Nat} {c r : eb_St} (h : Q n 6 0 0 c r) (hn : n < 2147483647) : Q (n + 1) 6 0 0 (m_X9_settle (m_X3_execute (m_X5_takeInterrupt c) (m_X5_whoRuns (m_X5_takeInterrupt c))).2 (m_X3_execute (m_X5_takeInterrupt c) (m_X5_whoRuns (m_X5_takeInterrupt c))).1) (m_X10_step r) := by
  obtain ⟨r1, e1, h1⟩ := Q_int h
  rw [e1]
  generalize m_X5_takeInterrupt c = c1 at h1 ⊢
  unfold m_X10_step_39
  dsimp only
  rcases h1.1.2.2.2.2.1.1 with i | ⟨e, he, i, _⟩
  · have hw : m_X5_whoRuns c1 = 6 := by
      unfold m_X5_whoRuns
      rw [Q_c6 h1, i]
      rfl
    rw [hw, i, if_pos (by decide)]
    exact Q_mono (Q_hstep HH h1 i) (by omega)
  · have hw : m_X5_whoRuns c1 = e := by
      unfold m_X5_whoRuns
      dsimp only
      rw [Q_c6 h1, i, y_place he, if_neg (by decide), nI_clamp (by omega)]
    rw [hw, i, if_neg (nI_pos (by omega)), nI_clamp (by omega)]
    exact Q_estep h1 he i hn
theorem Q_run16 (HH : yHost) {m : Nat} (hm : m ≤ 5000) : ∀ (d k n : Nat) (c r : eb_St), k + d = m → Q n 6 0 0 c r → n + d < 2147483647 → (m_X9_run_16 (d + 1) c (nI m) (nI k)).1 = (m_X10_run_16 (d + 1) r (nI m) (nI k)).1 ∧ Q (n + d) 6 0 0 (m_X9_run_16 (d + 1) c (nI m) (nI k)).2 (m_X10_run_16 (d + 1) r (nI m) (nI k)).2 := by
  intro d
  induction d with
  | zero =>
    intro k n c r h hQ hn
    rw [m_X9_run_16, m_X10_run_16, if_pos (nI_le (by omega) (by omega)), if_pos (nI_le (by omega) (by omega))]
    exact ⟨rfl, hQ⟩
  | succ d ih =>
    intro k n c r h hQ hn
    rw [m_X9_run_16, m_X10_run_16, if_neg (nI_ge (by omega) (by omega)), if_neg (nI_ge (by omega) (by omega))]
    have s1 := hQ.1.2.2.2.1.1
    by_cases q : r.1 0 5 = 0
    · rw [if_pos q, if_pos (s1.trans q)]
      dsimp only
      rw [nI_1]
      have g := ih (k + 1) (n + 1) _ _ (by omega) (Q_step HH hQ (by omega)) (by omega)
      rw [show n + 1 + d = n + (d + 1) by omega] at g
      exact g
    · rw [if_neg q, if_neg (fun z => q (s1.symm.trans z))]
      exact ⟨rfl, Q_mono hQ (by omega)⟩
theorem Q_runs (HH : yHost) {n : Nat} {c r : eb_St} (h : Q n 6 0 0 c r) (hn : n < 3000000) (a : Int32) : (m_X9_run c a).1 = (m_X10_run r a).1 ∧ Q (n + 5000) 6 0 0 (m_X9_run c a).2 (m_X10_run r a).2 := by
  unfold m_X9_run m_X10_run
  dsimp only
  rw [show (1 : Int64) = lN 1 from rfl, show (5000 : Int64) = lN 5000 from rfl, y_inI a 1 5000 (by omega) (by omega)]
  have l1 : a < 1 ↔ a.toInt < 1 := by rw [Int32.lt_iff_toInt_lt, show (1 : Int32).toInt = 1 by decide]
  have l2 : a ≤ 5000 ↔ a.toInt ≤ 5000 := by rw [Int32.le_iff_toInt_le, show (5000 : Int32).toInt = 5000 by decide]
  by_cases h1 : a < 1
  · rw [if_pos h1, decide_eq_false (by rw [l1] at h1; omega), if_pos (by decide)]
    exact ⟨rfl, Q_mono h (by omega)⟩
  · rw [if_neg h1]
    by_cases h2 : a ≤ 5000
    · rw [if_pos h2, decide_eq_true (by rw [l1] at h1; rw [l2] at h2; omega), if_neg (by decide)]
      rw [l1] at h1
      rw [l2] at h2
      obtain ⟨m, hm, rfl⟩ := nI_of (x := a) (by rw [Int32.lt_iff_toInt_lt, show (0 : Int32).toInt = 0 by decide]; omega)
      rw [nI_toInt hm] at h2
      rw [y_fuel0 hm]
      obtain ⟨g1, g2⟩ := Q_run16 HH (m := m) (by omega) m 0 n c r (by omega) h (by omega)
      exact ⟨g1, Q_mono g2 (by omega)⟩
    · rw [if_neg h2, decide_eq_false (by rw [l2] at h2; omega), if_pos (by decide)]
      exact ⟨rfl, Q_mono h (by omega)⟩
