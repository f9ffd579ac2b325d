/-! the monitor -/
def Qm (n t : Nat) (u : Int32) (v : Int64) (c r : eb_St) : Prop := qM c r ∧ qX v c r ∧ qE t c r ∧ qS n t u c r ∧ qG r ∧ qP c r ∧ qL c
theorem Qm_of {n t : Nat} {u : Int32} {v : Int64} {c r : eb_St} (h : Q n t u v c r) : Qm n t u v c r := ⟨h.1.1, h.1.2.1, h.1.2.2.1, h.1.2.2.2.1, h.1.2.2.2.2.1.2, h.1.2.2.2.2.2.1, h.1.2.2.2.2.2.2⟩
theorem Q_mk {n t : Nat} {u : Int32} {v : Int64} {c r : eb_St} (h : Qm n t u v c r) (hR : qR r) (hf : r.1 0 35 = 0) : Q n t u v (m_X5_arrange c) r := Q_arr ⟨h.1, h.2.1, h.2.2.1, h.2.2.2.1, ⟨hR, h.2.2.2.2.1⟩, h.2.2.2.2.2.1, h.2.2.2.2.2.2⟩ hf
theorem Qm_sc {n n' t : Nat} {u u' : Int32} {v : Int64} {c c' r r' : eb_St} (h : Qm n t u v c r) (c1 : ∀ q b, ¬ q = 0 → ¬ q = 8 → ¬ q = 9 → ¬ q = 10 → c'.1 q b = c.1 q b) (c2 : ∀ q b, ¬ q = 0 → ¬ q = 8 → ¬ q = 9 → ¬ q = 10 → ¬ q = 11 → c'.2 q b = c.2 q b) (r1 : ∀ q b, ¬ q = 0 → r'.1 q b = r.1 q b) (r2 : ∀ q b, ¬ q = 0 → r'.2 q b = r.2 q b) (r00 : r'.2 0 0 = r.2 0 0) (hs : qS n' t u' c' r') : Qm n' t u' v c' r' := by
  obtain ⟨m, x, e, s, g, p, l⟩ := h
  exact ⟨qM_fr m (fun b => c2 _ _ (by omega) (by omega) (by omega) (by omega) (by omega)) (fun b => r1 _ _ (by omega)), qX_fr x (fun q b hq => c2 _ _ (by omega) (by omega) (by omega) (by omega) (by omega)) (fun b => r1 _ _ (by omega)) (fun q b hq => r2 _ _ (by omega)), qE_fr e (fun q b _ _ => c1 _ _ (by omega) (by omega) (by omega) (by omega)) (fun q b h1 h2 => c2 q b (by omega) (by omega) (by omega) (by omega) (by omega)) (fun q b h1 h2 => r1 q b (by omega)) (fun b => r2 _ _ (by omega)) r00, hs, qG_fr g (fun q b h1 h2 => r1 q b (by omega)), qP_fr p (fun b => c1 _ _ (by omega) (by omega) (by omega) (by omega)) (fun b => c2 _ _ (by omega) (by omega) (by omega) (by omega) (by omega)) (fun b => r1 _ _ (by omega)) (fun b => r2 _ _ (by omega)), qL_fr l (fun q b _ => c1 _ _ (by omega) (by omega) (by omega) (by omega)) (fun b => c2 _ _ (by omega) (by omega) (by omega) (by omega) (by omega))⟩
theorem qS_E {n t : Nat} {u : Int32} {c c' r r' : eb_St} (s : qS n t u c r) (c1 : ∀ q b, q < 13 → c'.1 q b = c.1 q b) (c2 : c'.2 = c.2) (r1 : ∀ q b, ¬ 6 ≤ q → r'.1 q b = r.1 q b) (r2 : r'.2 = r.2) : qS n t u c' r' := by
  unfold qS
  rw [c2, r2, c1 0 6 (by omega), c1 0 7 (by omega), c1 10 6 (by omega), c1 8 6 (by omega), c1 10 10 (by omega), c1 10 11 (by omega), c1 10 12 (by omega), c1 10 13 (by omega), c1 10 9 (by omega), c1 9 3 (by omega), c1 8 1 (by omega), r1 0 5 (by omega), r1 0 6 (by omega), r1 0 8 (by omega), r1 0 9 (by omega), r1 0 10 (by omega), r1 0 11 (by omega), r1 0 12 (by omega), r1 0 13 (by omega), r1 0 14 (by omega), r1 0 4 (by omega), r1 0 32 (by omega)]
  exact s
theorem Qm_status {n t : Nat} {u : Int32} {v : Int64} {c r : eb_St} (h : Qm n t u v c r) {e : Nat} (he : e < 6) {a : Int32} (ha : a = 0 ∨ ¬ r.1 6 e = 0) : Qm n t u v (eb_pI c (13 + e) 1 a) (eb_pI r 6 e a) := by
  obtain ⟨m, x, E, s, g, p, l⟩ := h
  have live : ∀ k, ¬ (eb_pI r 6 e a).1 6 k = 0 → ¬ r.1 6 k = 0 := fun k hk => by
    by_cases q : k = e
    · rw [q] at hk ⊢
      rw [eb_rdI] at hk
      exact ha.resolve_left hk
    · rw [pI_p q] at hk; exact hk
  refine ⟨qM_fr m (fun b => rfl) (fun b => pI_o (by omega)), fun s' hs' hl => ?_, fun k hk => ?_, qS_E s (fun q b hq => pI_o (by omega)) rfl (fun q b hq => pI_o (by omega)) rfl, fun k hk hl => ?_, qP_fr p (fun b => pI_o (by omega)) (fun b => rfl) (fun b => pI_o (by omega)) (fun b => rfl), qL_fr l (fun q b hq => pI_o (by omega)) (fun b => rfl)⟩
  · exact x s' hs' (hl.imp id (live s'))
  · obtain ⟨e1, e2, e3, e4, e5, e6, e7, e8, e9, e10⟩ := E k hk
    have f : ∀ b, ¬ b = 1 → (eb_pI c (13 + e) 1 a).1 (13 + k) b = c.1 (13 + k) b := fun b hb => pI_p hb
    have f2 : ∀ q b, ¬ q = 6 → (eb_pI r 6 e a).1 q b = r.1 q b := fun q b hq => pI_o hq
    rw [f 2 (by omega), f 3 (by omega), f 4 (by omega), f 5 (by omega), f 6 (by omega), f 7 (by omega), f 8 (by omega), f2 7 _ (by omega), f2 8 _ (by omega), f2 9 _ (by omega), f2 10 _ (by omega), f2 11 _ (by omega), f2 12 _ (by omega), f2 13 _ (by omega)]
    refine ⟨?_, e2, e3, e4, e5, e6, e7, e8, e9, fun hl => e10 (live k hl)⟩
    by_cases q : k = e
    · rw [q]; simp [eb_pI]
    · rw [pI_p q, pI_o (by omega)]; exact e1
  · have f2 : ∀ q b, ¬ q = 6 → (eb_pI r 6 e a).1 q b = r.1 q b := fun q b hq => pI_o hq
    rw [f2 7 _ (by omega), f2 8 _ (by omega), f2 10 _ (by omega), f2 11 _ (by omega)]
    exact g k hk (live k hl)
theorem Qm_stays {n t : Nat} {u : Int32} {v : Int64} {c r : eb_St} (h : Qm n t u v c r) {e : Nat} (he : e < 6) (a : Int32) : Qm n t u v (eb_pI c (13 + e) 7 a) (eb_pI r 12 e a) := by
  obtain ⟨m, x, E, s, g, p, l⟩ := h
  refine ⟨qM_fr m (fun b => rfl) (fun b => pI_o (by omega)), qX_fr x (fun q b _ => rfl) (fun b => pI_o (by omega)) (fun q b _ => rfl), fun k hk => ?_, qS_E s (fun q b hq => pI_o (by omega)) rfl (fun q b hq => pI_o (by omega)) rfl, fun k hk => ?_, qP_fr p (fun b => pI_o (by omega)) (fun b => rfl) (fun b => pI_o (by omega)) (fun b => rfl), qL_fr l (fun q b hq => pI_o (by omega)) (fun b => rfl)⟩
  · obtain ⟨e1, e2, e3, e4, e5, e6, e7, e8, e9, e10⟩ := E k hk
    have f : ∀ b, ¬ b = 7 → (eb_pI c (13 + e) 7 a).1 (13 + k) b = c.1 (13 + k) b := fun b hb => pI_p hb
    have f2 : ∀ q b, ¬ q = 12 → (eb_pI r 12 e a).1 q b = r.1 q b := fun q b hq => pI_o hq
    rw [f 2 (by omega), f 3 (by omega), f 4 (by omega), f 5 (by omega), f 6 (by omega), f 1 (by omega), f 8 (by omega), f2 7 _ (by omega), f2 8 _ (by omega), f2 9 _ (by omega), f2 10 _ (by omega), f2 11 _ (by omega), f2 6 _ (by omega), f2 13 _ (by omega)]
    refine ⟨e1, e2, e3, e4, e5, e6, ?_, e8, e9, e10⟩
    by_cases q : k = e
    · rw [q]; simp [eb_pI]
    · rw [pI_p q, pI_o (by omega)]; exact e7
  · have f2 : ∀ q b, ¬ q = 12 → (eb_pI r 12 e a).1 q b = r.1 q b := fun q b hq => pI_o hq
    rw [f2 6 _ (by omega), f2 7 _ (by omega), f2 8 _ (by omega), f2 10 _ (by omega), f2 11 _ (by omega)]
    exact g k hk
theorem qS_J {n t : Nat} {u : Int32} {c c' r r' : eb_St} (s : qS n t u c r) (c1 : c'.1 = c.1) (c2 : ∀ q b, q < 11 → ¬ q = 2 → c'.2 q b = c.2 q b) (r1 : ∀ q b, ¬ q = 1 → r'.1 q b = r.1 q b) (r2 : ∀ b, r'.2 0 b = r.2 0 b) : qS n t u c' r' := by
  unfold qS
  rw [c1, c2 0 8 (by omega) (by omega), c2 8 2 (by omega) (by omega), c2 8 3 (by omega) (by omega), c2 8 4 (by omega) (by omega), c2 8 5 (by omega) (by omega), c2 10 0 (by omega) (by omega), c2 10 7 (by omega) (by omega), c2 10 8 (by omega) (by omega), r1 0 5 (by omega), r1 0 6 (by omega), r1 0 8 (by omega), r1 0 9 (by omega), r1 0 10 (by omega), r1 0 11 (by omega), r1 0 12 (by omega), r1 0 13 (by omega), r1 0 14 (by omega), r1 0 4 (by omega), r1 0 32 (by omega), r2, r2, r2, r2, r2, r2, r2, r2]
  exact s
theorem Qm_reg {n t : Nat} {u : Int32} {v : Int64} {c r : eb_St} (h : Qm n t u v c r) {j : Nat} (hj : j < 32) (w : Int64) : Qm n t u v (eb_pJ c 32 j w) (eb_pJ r 2 (192 + j) w) := by
  obtain ⟨m, x, E, s, g, p, l⟩ := h
  refine ⟨qM_fr m (fun b => pJ_o (by omega)) (fun b => rfl), fun s' hs' hl => ?_, qE_fr E (fun q b _ _ => rfl) (fun q b _ _ => pJ_o (by omega)) (fun q b _ _ => rfl) (fun b => pJ_o (by omega)) (pJ_o (by omega)), qS_J s rfl (fun q b _ _ => pJ_o (by omega)) (fun q b _ => rfl) (fun b => pJ_o (by omega)), g, qP_fr p (fun b => rfl) (fun b => pJ_o (by omega)) (fun b => rfl) (fun b => pJ_o (by omega)), qL_fr l (fun q b _ => rfl) (fun b => pJ_o (by omega))⟩
  obtain ⟨a, b⟩ := x s' hs' hl
  refine ⟨fun j' hj' => ?_, ?_⟩
  · have e := a j' hj'
    show (if 26 + s' = 32 ∧ j' = j then w else c.2 (26 + s') j') = if 2 = 2 ∧ 32 * s' + j' = 192 + j then w else r.2 2 (32 * s' + j')
    by_cases q : 26 + s' = 32 ∧ j' = j
    · rw [if_pos q, if_pos (by omega)]
    · rw [if_neg q, if_neg (by omega)]; exact e
  · rw [pJ_o (by omega), pJ_o (by omega)]; exact b
theorem Qm_mem {n t : Nat} {u : Int32} {v : Int64} {c c' r r' : eb_St} (h : Qm n t u v c r) (hc : cF c c') (hr : rF r r') (hm : qM c' r') : Qm n t u v c' r' := by
  obtain ⟨m, x, E, s, g, p, l⟩ := h
  have c1 : ∀ q b, c'.1 q b = c.1 q b := fun q b => by rw [hc.1]
  have r2 : ∀ q b, r'.2 q b = r.2 q b := fun q b => by rw [hr.1]
  exact ⟨hm, qX_fr x (fun q b hq => hc.2 q b (by omega)) (fun b => hr.2 6 b (by omega)) (fun q b _ => r2 q b), qE_fr E (fun q b _ _ => c1 q b) (fun q b _ _ => hc.2 q b (by omega)) (fun q b _ _ => hr.2 q b (by omega)) (fun b => r2 _ b) (r2 _ _), qS_J s hc.1 (fun q b _ hq => hc.2 q b hq) (fun q b hq => hr.2 q b hq) (fun b => r2 _ b), qG_fr g (fun q b _ _ => hr.2 q b (by omega)), qP_fr p (fun b => c1 _ b) (fun b => hc.2 _ b (by omega)) (fun b => hr.2 _ b (by omega)) (fun b => r2 _ b), qL_fr l (fun q b _ => c1 q b) (fun b => hc.2 _ b (by omega))⟩
theorem y_set10 (c : eb_St) (v : Int64) : m_X7_set c 6 10 v = eb_pJ c 32 10 v := rfl
theorem y_set11 (c : eb_St) (v : Int64) : m_X7_set c 6 11 v = eb_pJ c 32 11 v := rfl
theorem Q_run {n t : Nat} {u : Int32} {v : Int64} {c r : eb_St} (h : Q n t u v c r) (hr : ¬ r.1 0 8 < 0) : ∃ e, e < 6 ∧ r.1 0 8 = nI e ∧ c.1 10 6 = nI e ∧ ¬ r.1 6 e = 0 ∧ r.1 0 4 = 0 := by
  have s4 := h.1.2.2.2.1.2.2.2.1
  rcases h.1.2.2.2.2.1.1 with i | ⟨e, he, i, l, m⟩
  · exact absurd (show r.1 0 8 < 0 by rw [i]; decide) hr
  · exact ⟨e, he, i, s4.trans i, l, m⟩
theorem Q_leave {n : Nat} {u : Int32} {v : Int64} {c r : eb_St} (h : Q n 6 u v c r) (hr : ¬ r.1 0 8 < 0) {k : Int32} (hk : k = 0 ∨ k = 1 ∨ k = 2) {a : Int32} (ha : a = if k = 2 then 3 else 2) (x : Int64) : Q n 6 u v (m_X5_leave c k x) (m_X10_ends r a k.toInt64 x) ∧ (m_X10_ends r a k.toInt64 x).1 0 8 = -1 := by
  obtain ⟨e, he, h8, hc6, hl, hm0⟩ := Q_run h hr
  have hm := Qm_of h
  have ha0 : a = 0 ∨ ¬ r.1 6 e = 0 := Or.inr hl
  have m1 := Qm_status hm he ha0
  obtain ⟨s1, s2, s3, s4, s5, s6, s7, s8, s9, s10, s11, s12, s13, s14, s15, s16, s17, s18, s19, s20, s21, s22⟩ := m1.2.2.2.1
  have lv : m_X5_leave c k x = m_X5_leave_31 c k x a e := by
    unfold m_X5_leave
    dsimp only
    rw [hc6, y_place he, if_neg (by decide), nI_clamp (by omega), ha]
    by_cases q : k = 2
    · rw [if_pos q, if_pos q]
    · rw [if_neg q, if_neg q]
  rw [lv]
  unfold m_X5_leave_31 m_X5_leave_54 m_X10_ends m_X10_hostGets
  rw [h8, nI_clamp (by omega)]
  dsimp only
  by_cases q : k = 1
  · rw [if_pos q, if_pos (show k.toInt64 = 1 by rw [q]; rfl)]
    refine ⟨?_, rfl⟩
    have m2 : Qm n 6 u v (eb_pI (eb_pI (eb_pI c (13 + e) 1 a) 10 6 (-1)) 10 12 ((eb_pI c (13 + e) 1 a).1 10 12 + 1)) (eb_pI (eb_pI (eb_pI (eb_pI r 6 e a) 0 8 (-1)) 0 35 0) 0 12 ((eb_pI r 6 e a).1 0 12 + 1)) :=
      Qm_sc m1 (fun q b _ _ _ h10 => (pI_o h10).trans (pI_o h10)) (fun q b _ _ _ _ _ => rfl) (fun q b h0 => (pI_o h0).trans ((pI_o h0).trans (pI_o h0))) (fun q b _ => rfl) rfl ⟨s1, s2, s3, rfl, s5, s6, s7, congrArg (· + 1) s8, s9, s10, s11, s12, s13, s14, s15, s16, s17, s18, s19, s20, s21, s22⟩
    exact Q_mk (Qm_reg (Qm_reg m2 (j := 10) (by omega) k.toInt64) (j := 11) (by omega) x) (Or.inl rfl) rfl
  · have hk1 : ¬ k.toInt64 = 1 := by
      rcases hk with z | z | z
      · rw [z]; decide
      · exact absurd z q
      · rw [z]; decide
    rw [if_neg q, if_neg hk1]
    refine ⟨?_, rfl⟩
    have m2 : Qm n 6 u v (eb_pI (eb_pI c (13 + e) 1 a) 10 6 (-1)) (eb_pI (eb_pI (eb_pI r 6 e a) 0 8 (-1)) 0 35 0) :=
      Qm_sc m1 (fun q b _ _ _ h10 => pI_o h10) (fun q b _ _ _ _ _ => rfl) (fun q b h0 => (pI_o h0).trans (pI_o h0)) (fun q b _ => rfl) rfl ⟨s1, s2, s3, rfl, s5, s6, s7, s8, s9, s10, s11, s12, s13, s14, s15, s16, s17, s18, s19, s20, s21, s22⟩
    exact Q_mk (Qm_reg (Qm_reg m2 (j := 10) (by omega) k.toInt64) (j := 11) (by omega) x) (Or.inl rfl) rfl
