/-! loads and stores -/
theorem D_H {n t : Nat} {u : Int32} {s : Nat} {w : Int32} {c r r' : eb_St} (h : yD n t u s w c r) (hQ : Q n t u 0 c r') (hH : rH r r') : yD n t u s w c r' ∧ r'.1 0 8 = r.1 0 8 := by
  obtain ⟨_, hs, hset, hl, h37, h38, h41, h39, h40, h42, h95⟩ := h
  have r1 := hH.1
  refine ⟨⟨hQ, hs, ?_, ?_, ?_, ?_, ?_, ?_, ?_, ?_, h95⟩, r1 0 8 (by omega)⟩
  · unfold m_X10_set at hset ⊢; rw [r1 0 8 (by omega)]; exact hset
  · rw [r1 6 s (by omega)]; exact hl
  · rw [r1 0 37 (by omega)]; exact h37
  · rw [r1 0 38 (by omega)]; exact h38
  · rw [r1 0 41 (by omega)]; exact h41
  · rw [r1 0 39 (by omega)]; exact h39
  · rw [r1 0 40 (by omega)]; exact h40
  · rw [r1 0 42 (by omega)]; exact h42
theorem Q_letsM {n t : Nat} {u : Int32} {v : Int64} {c r : eb_St} (h : Q n t u v c r) (x : Int64) {z : Nat} (hz : y_sz z) {need : Int32} (hn : need = 1 ∨ need = 2 ∨ need = 4) :
    (m_X10_isMemory x (nI z) = false ∧ m_X6_lets c (c.1 9 3) x (nI z) need = false) ∨
    (m_X10_isMemory x (nI z) = true ∧ ∃ a, a + z ≤ 65536 ∧ x = lN a ∧ x.toInt32 = nI a ∧ (m_X10_lets r x.toInt32 (nI z) need (r.1 0 4)).1 = m_X6_lets c (c.1 9 3) x (nI z) need ∧ Q n t u v c (m_X10_lets r x.toInt32 (nI z) need (r.1 0 4)).2 ∧ rH r (m_X10_lets r x.toInt32 (nI z) need (r.1 0 4)).2) := by
  have hz8 : 1 ≤ z ∧ z ≤ 8 := by rcases hz with rfl | rfl | rfl | rfl <;> omega
  unfold m_X10_isMemory
  by_cases h0 : x < 0
  · left
    unfold m_X6_lets
    rw [if_pos h0, if_pos h0]
    exact ⟨rfl, rfl⟩
  · rw [if_neg h0]
    obtain ⟨a, ha, rfl⟩ := pk_lOf h0
    have e1 : ((65536 : Int32) - nI z).toInt64 = lN (65536 - z) := by rw [show (65536 : Int32) - nI z = nI (65536 - z) from pk_sub (a := 65536) (by omega), nI_l (by omega)]
    by_cases h1 : a + z ≤ 65536
    · right
      rw [e1, if_neg (show ¬ lN (65536 - z) < lN a from by rw [pk_lLT (by omega) ha]; omega)]
      refine ⟨rfl, a, h1, rfl, lN_i a, ?_⟩
      rw [lN_i]
      exact Q_lets h h1 hz8.1 hn
    · left
      unfold m_X6_lets
      rw [e1, if_pos (show lN (65536 - z) < lN a from by rw [pk_lLT (by omega) ha]; omega), if_neg h0, if_neg (show ¬ lN a ≤ lN (65536 - z) from by rw [pk_lLE ha (by omega)]; omega)]
      exact ⟨rfl, rfl⟩
theorem y_al {a z : Nat} (ha : a < 2 ^ 31) (hz : y_sz z) : ((lN a &&& (nI z - 1).toInt64) = 0) ↔ a % z = 0 := by
  have key : ∀ k, 2 ^ k < 2 ^ 31 → ((lN a &&& (nI (2 ^ k) - 1).toInt64) = 0 ↔ a % 2 ^ k = 0) := by
    intro k hk
    have hp : 0 < 2 ^ k := Nat.two_pow_pos k
    have hm := Nat.mod_lt a hp
    rw [show nI (2 ^ k) - 1 = nI (2 ^ k - 1) from pk_sub (b := 1) (by omega), nI_l (by omega), y_maskL]
    exact lN_eq (b := 0) (by omega) (by omega)
  rcases hz with rfl | rfl | rfl | rfl
  · exact key 0 (by decide)
  · exact key 1 (by decide)
  · exact key 2 (by decide)
  · exact key 3 (by decide)
theorem O_ld {n t : Nat} {u : Int32} {s : Nat} {w : Int32} {c r : eb_St} (h : yD n t u s w c r) (x : Int64) {z : Nat} (hz : y_sz z) (f : Int64 → Int64) : yO n t u s (r.1 0 8)
    (if (x &&& ((nI z - 1).toInt64)) = 0 then (if (eb_b (m_X6_lets c (c.1 9 3) x (nI z) 1)) = 0 then m_X3_fault c 5 x else m_X3_finish c s w (f (m_X4_load c x.toInt32 (nI z)))) else m_X3_fault c 4 x)
    (if (x &&& ((nI z - 1).toInt64)) = 0 then (if (eb_b (m_X10_isMemory x (nI z))) = 0 then m_X10_fault r 5 x else (if (eb_b (m_X10_lets r x.toInt32 (nI z) 1 (r.1 0 4)).1) = 0 then m_X10_fault (m_X10_lets r x.toInt32 (nI z) 1 (r.1 0 4)).2 5 x else m_X10_sets (m_X10_lets r x.toInt32 (nI z) 1 (r.1 0 4)).2 (f (m_X10_take (m_X10_lets r x.toInt32 (nI z) 1 (r.1 0 4)).2 x.toInt32 (nI z))))) else m_X10_fault r 4 x) := by
  by_cases q : (x &&& ((nI z - 1).toInt64)) = 0
  · rw [if_pos q, if_pos q]
    rcases Q_letsM h.1 x hz (need := 1) (Or.inl rfl) with ⟨m1, m2⟩ | ⟨m1, a, ha, ex, ei, l1, l2, l3⟩
    · rw [m1, m2]
      exact O_flt (f := 5) h.1 (by decide) (by decide) rfl
    · rw [m1, if_neg (show ¬ eb_b true = 0 by decide), l1]
      obtain ⟨hD, h8⟩ := D_H h l2 l3
      rw [ei] at hD h8 l2 ⊢
      cases m_X6_lets c (c.1 9 3) x (nI z) 1 with
      | false =>
        have k := O_flt (s := s) (f := 5) (v := x) (v' := x) l2 (by decide) (by decide) rfl
        rw [h8] at k
        exact k
      | true =>
        have hal : a % z = 0 := (y_al (by omega) hz).mp (by rw [← ex]; exact q)
        have k := O_fin hD (v := f (m_X4_load c (nI a) (nI z))) (congrArg f (qM_load l2.1.1 ha hz hal))
        rw [h8] at k
        exact k
  · rw [if_neg q, if_neg q]
    exact O_flt (f := 4) h.1 (by decide) (by decide) rfl
theorem O_load {n t : Nat} {u : Int32} {s : Nat} {w : Int32} {c r : eb_St} (h : yD n t u s w c r) : yO n t u s (r.1 0 8) (m_X3_load c s w) (m_X10_loads r) := by
  have hx := D_x1 h
  have h41 := h.2.2.2.2.2.2.1
  have h37 := h.2.2.2.2.1
  have hk : m_X3_kind w = r.1 0 41 := by rw [h41]; exact y_f3 w
  have h41' : ∀ x z : Int32, (m_X10_lets r x z 1 (r.1 0 4)).2.1 0 41 = r.1 0 41 := fun x z => by
    obtain ⟨r', e, hQ, hH, hf⟩ := Q_fresh h.1 x z 1 (r.1 0 4)
    rw [e]
    have key : ∀ (m : Nat) (i : Int32), (m_X10_lets_14 m r' x z 1 (r.1 0 4) i).2 = r' := by
      intro m
      induction m with
      | zero => intro i; rfl
      | succ m ih =>
        intro i
        rw [m_X10_lets_14]
        dsimp only
        unfold m_X10_lets_122
        split
        · rfl
        · split
          · exact ih _
          · split
            · exact ih _
            · split
              · split
                · rfl
                · split
                  · split
                    · split <;> rfl
                    · split
                      · rfl
                      · split <;> rfl
                  · rfl
              · exact ih _
    rw [key]
    exact hH.1 0 41 (by omega)
  unfold m_X3_load m_X10_loads
  rw [hx, hk, h37]
  dsimp only
  simp only [h41']
  have h8 := y_8 (w >>> (12 &&& 31))
  rw [← h41] at h8
  generalize m_X3_first c s w + _ = x
  rcases h8 with q | q | q | q | q | q | q | q
  · simp (decide := true) only [q, if_true, if_false]
    exact O_ld h x (z := 1) (Or.inl rfl) (fun v => eb_lshr (eb_lshl v (64 - 8 * 1)) (64 - 8 * 1))
  · simp (decide := true) only [q, if_true, if_false]
    exact O_ld h x (z := 2) (Or.inr (Or.inl rfl)) (fun v => eb_lshr (eb_lshl v (64 - 8 * 2)) (64 - 8 * 2))
  · simp (decide := true) only [q, if_true, if_false]
    exact O_ld h x (z := 4) (Or.inr (Or.inr (Or.inl rfl))) (fun v => eb_lshr (eb_lshl v (64 - 8 * 4)) (64 - 8 * 4))
  · simp (decide := true) only [q, if_true, if_false]
    exact O_ld h x (z := 8) (Or.inr (Or.inr (Or.inr rfl))) (fun v => eb_lshr (eb_lshl v (64 - 8 * 8)) (64 - 8 * 8))
  · simp (decide := true) only [q, if_true, if_false]
    exact O_ld h x (z := 1) (Or.inl rfl) (fun v => v)
  · simp (decide := true) only [q, if_true, if_false]
    exact O_ld h x (z := 2) (Or.inr (Or.inl rfl)) (fun v => v)
  · simp (decide := true) only [q, if_true, if_false]
    exact O_ld h x (z := 4) (Or.inr (Or.inr (Or.inl rfl))) (fun v => v)
  · simp (decide := true) only [q, if_true, if_false]
    exact O_ill h
theorem O_st {n t : Nat} {u : Int32} {s : Nat} {w : Int32} {c r : eb_St} (h : yD n t u s w c r) (x : Int64) {z : Nat} (hz : y_sz z) : yO n t u s (r.1 0 8)
    (if (x &&& ((nI z - 1).toInt64)) = 0 then (if (eb_b (m_X6_lets c (c.1 9 3) x (nI z) 2)) = 0 then m_X3_fault c 7 x else ((-1), m_X4_store c x.toInt32 (nI z) (m_X3_second c s w))) else m_X3_fault c 6 x)
    (if (x &&& ((nI z - 1).toInt64)) = 0 then (if (eb_b (m_X10_isMemory x (nI z))) = 0 then m_X10_fault r 7 x else (if (eb_b (m_X10_lets r x.toInt32 (nI z) 2 (r.1 0 4)).1) = 0 then m_X10_fault (m_X10_lets r x.toInt32 (nI z) 2 (r.1 0 4)).2 7 x else m_X10_goesOn (m_X10_put (m_X10_lets r x.toInt32 (nI z) 2 (r.1 0 4)).2 x.toInt32 (nI z) (m_X10_x (m_X10_lets r x.toInt32 (nI z) 2 (r.1 0 4)).2 ((m_X10_lets r x.toInt32 (nI z) 2 (r.1 0 4)).2.1 0 40))))) else m_X10_fault r 6 x) := by
  by_cases q : (x &&& ((nI z - 1).toInt64)) = 0
  · rw [if_pos q, if_pos q]
    rcases Q_letsM h.1 x hz (need := 2) (Or.inr (Or.inl rfl)) with ⟨m1, m2⟩ | ⟨m1, a, ha, ex, ei, l1, l2, l3⟩
    · rw [m1, m2]
      exact O_flt (f := 7) h.1 (by decide) (by decide) rfl
    · rw [m1, if_neg (show ¬ eb_b true = 0 by decide), l1]
      obtain ⟨hD, h8⟩ := D_H h l2 l3
      rw [ei] at hD h8 l2 ⊢
      generalize (m_X10_lets r (nI a) (nI z) 2 (r.1 0 4)).2 = r' at hD h8 l2 ⊢
      cases m_X6_lets c (c.1 9 3) x (nI z) 2 with
      | false =>
        have k := O_flt (s := s) (f := 7) (v := x) (v' := x) l2 (by decide) (by decide) rfl
        rw [h8] at k
        exact k
      | true =>
        have hal : a % z = 0 := (y_al (by omega) hz).mp (by rw [← ex]; exact q)
        have hx2 := D_x2 hD
        show yO n t u s (r.1 0 8) ((-1), m_X4_store c (nI a) (nI z) (m_X3_second c s w)) (m_X10_goesOn (m_X10_put r' (nI a) (nI z) (m_X10_x r' (r'.1 0 40))))
        rw [hx2]
        generalize m_X3_second c s w = v
        have hp := y_put (r := r') (v := v) ha hz
        have hc := cF_store c (nI a) (nI z) v
        have hQ2 := Q_mem l2 hc hp.1 (qM_store l2.1.1 (v := v) ha hz hal)
        obtain ⟨_, hs, hset, hl, h37, h38, h41, h39, h40, h42, h95⟩ := hD
        have k := O_go (s := s) (c := m_X4_store c (nI a) (nI z) v) (r := m_X10_put r' (nI a) (nI z) v) hQ2 hs (by unfold m_X10_set at hset ⊢; rw [hp.1.2 0 8 (by omega)]; exact hset) (by rw [hp.1.2 6 s (by omega)]; exact hl) (by rw [hc.2 9 5 (by omega), hp.1.1, h95, Q_pc0 l2 hs hl])
        rw [hp.1.2 0 8 (by omega), h8] at k
        exact k
  · rw [if_neg q, if_neg q]
    exact O_flt (f := 6) h.1 (by decide) (by decide) rfl
theorem O_store {n t : Nat} {u : Int32} {s : Nat} {w : Int32} {c r : eb_St} (h : yD n t u s w c r) : yO n t u s (r.1 0 8) (m_X3_store c s w) (m_X10_stores r) := by
  have hx := D_x1 h
  have h38 := h.2.2.2.2.2.1
  have h41 := h.2.2.2.2.2.2.1
  have h37 := h.2.2.2.2.1
  have hk : m_X3_kind w = r.1 0 41 := by rw [h41]; exact y_f3 w
  unfold m_X3_store m_X10_stores
  rw [hx, hk, h37, h38, y_rd]
  dsimp only
  have h8 := y_8 (w >>> (12 &&& 31))
  rw [← h41] at h8
  generalize m_X3_first c s w + _ = x
  rcases h8 with q | q | q | q | q | q | q | q
  · simp (decide := true) only [q, if_true, if_false]
    exact O_st h x (z := 1) (Or.inl rfl)
  · simp (decide := true) only [q, if_true, if_false]
    exact O_st h x (z := 2) (Or.inr (Or.inl rfl))
  · simp (decide := true) only [q, if_true, if_false]
    exact O_st h x (z := 4) (Or.inr (Or.inr (Or.inl rfl)))
  · simp (decide := true) only [q, if_true, if_false]
    exact O_st h x (z := 8) (Or.inr (Or.inr (Or.inr rfl)))
  · simp (decide := true) only [q, if_true, if_false]
    exact O_ill h
  · simp (decide := true) only [q, if_true, if_false]
    exact O_ill h
  · simp (decide := true) only [q, if_true, if_false]
    exact O_ill h
  · simp (decide := true) only [q, if_true, if_false]
    exact O_ill h
