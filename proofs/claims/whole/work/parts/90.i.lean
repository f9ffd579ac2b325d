/-! one instruction -/
def yO (n t : Nat) (u : Int32) (s : Nat) (R8 : Int32) (a b : Int32 × eb_St) : Prop :=
  b.2.1 0 8 = R8 ∧ ((a.1 = -1 ∧ b.1 = -1 ∧ Q n t u 0 (eb_pJ a.2 (19 + s) 1 (a.2.2 9 5)) b.2) ∨ (¬ a.1 = -1 ∧ ¬ a.1 = 11 ∧ b.1 = a.1 ∧ a.2.2 9 4 = b.2.2 0 36 ∧ Q n t u 0 a.2 b.2))
def yD (n t : Nat) (u : Int32) (s : Nat) (w : Int32) (c r : eb_St) : Prop :=
  Q n t u 0 c r ∧ s < 7 ∧ m_X10_set r = nI s ∧ (s = 6 ∨ ¬ r.1 6 s = 0) ∧ r.1 0 37 = w ∧ r.1 0 38 = (w >>> (7 &&& 31)) &&& 31 ∧ r.1 0 41 = (w >>> (12 &&& 31)) &&& 7 ∧ r.1 0 39 = (w >>> (15 &&& 31)) &&& 31 ∧ r.1 0 40 = (w >>> (20 &&& 31)) &&& 31 ∧ r.1 0 42 = eb_iushr w 25 ∧ c.2 9 5 = c.2 (19 + s) 1 + 4
theorem y_31 (x : Int32) : ∃ j : Nat, j < 32 ∧ (x &&& 31) = nI j := pk_andE x 5 (by decide)
theorem y_x {n t : Nat} {u : Int32} {s : Nat} {v : Int64} {c r : eb_St} (h : Q n t u v c r) (hs : s < 7) (hset : m_X10_set r = nI s) (hl : s = 6 ∨ ¬ r.1 6 s = 0) {j : Nat} (hj : j < 32) : m_X10_x r (nI j) = c.2 (26 + s) j := by
  unfold m_X10_x
  dsimp only
  rw [hset, show (32 : Int32) * nI s = nI (32 * s) from pk_mul 32 s, nI_add, nI_clamp (by omega)]
  exact ((h.1.2.1 s hs hl).1 j hj).symm
theorem D_x1 {n t : Nat} {u : Int32} {s : Nat} {w : Int32} {c r : eb_St} (h : yD n t u s w c r) : m_X10_x r (r.1 0 39) = m_X3_first c s w := by
  obtain ⟨hQ, hs, hset, hl, h37, h38, h41, h39, h40, h42, h95⟩ := h
  obtain ⟨j, hj, e⟩ := y_31 (eb_iushr w 15)
  unfold m_X3_first m_X7_get
  rw [h39, ← y_rs1, e, nI_clamp (by omega)]
  exact y_x hQ hs hset hl hj
theorem D_x2 {n t : Nat} {u : Int32} {s : Nat} {w : Int32} {c r : eb_St} (h : yD n t u s w c r) : m_X10_x r (r.1 0 40) = m_X3_second c s w := by
  obtain ⟨hQ, hs, hset, hl, h37, h38, h41, h39, h40, h42, h95⟩ := h
  obtain ⟨j, hj, e⟩ := y_31 (eb_iushr w 20)
  unfold m_X3_second m_X7_get
  rw [h40, ← y_rs2, e, nI_clamp (by omega)]
  exact y_x hQ hs hset hl hj
theorem Q_pc0 {n t : Nat} {u : Int32} {s : Nat} {c r : eb_St} (h : Q n t u 0 c r) (hs : s < 7) (hl : s = 6 ∨ ¬ r.1 6 s = 0) : r.2 3 s = c.2 (19 + s) 1 := by
  have e := (h.1.2.1 s hs hl).2
  rw [e]
  by_cases q : s = 6
  · rw [if_pos q, Int64.add_zero]
  · rw [if_neg q, Int64.add_zero]
theorem O_flt {n t : Nat} {u : Int32} {s : Nat} {c r : eb_St} (h : Q n t u 0 c r) {f : Int32} {v v' : Int64} (h1 : ¬ f = -1) (h2 : ¬ f = 11) (hv : v = v') : yO n t u s (r.1 0 8) (m_X3_fault c f v) (m_X10_fault r f v') := by
  subst hv
  refine ⟨rfl, Or.inr ⟨h1, h2, rfl, ?_, Q_r36 (Q_c9 h 4 v) v⟩⟩
  show (eb_pJ c 9 4 v).2 9 4 = (eb_pJ r 0 36 v).2 0 36
  simp [eb_pJ]
theorem O_ill {n t : Nat} {u : Int32} {s : Nat} {w : Int32} {c r : eb_St} (h : yD n t u s w c r) : yO n t u s (r.1 0 8) (m_X3_illegal c w) (m_X10_illegal r) :=
  O_flt (f := 2) h.1 (by decide) (by decide) (by rw [h.2.2.2.2.1])
theorem y_setJ (r : eb_St) (q j : Nat) (v : Int64) : m_X10_set (eb_pJ r q j v) = m_X10_set r := rfl
theorem O_pc {n t : Nat} {u : Int32} {s : Nat} {c r : eb_St} (h : Q n t u 0 c r) (hs : s < 7) {x y : Int64} (hx : x = y) : Q n t u 0 (eb_pJ c (19 + s) 1 x) (eb_pJ r 3 s y) := by
  subst hx
  refine Q_pc h hs x x ?_
  by_cases q : s = 6
  · exact Or.inl ⟨q, (Int64.add_zero x).symm⟩
  · exact Or.inr ⟨q, rfl, rfl⟩
theorem D_give {n t : Nat} {u : Int32} {s : Nat} {w : Int32} {c r : eb_St} (h : yD n t u s w c r) (v : Int64) : Q n t u 0 (m_X7_set c s (eb_iushr w 7) v) (m_X10_give r (r.1 0 38) v) ∧ (m_X10_give r (r.1 0 38) v).1 = r.1 ∧ (∀ j, (m_X10_give r (r.1 0 38) v).2 3 j = r.2 3 j) ∧ (m_X7_set c s (eb_iushr w 7) v).2 9 = c.2 9 := by
  obtain ⟨hQ, hs, hset, hl, h37, h38, h41, h39, h40, h42, h95⟩ := h
  obtain ⟨j, hj, e⟩ := y_31 (eb_iushr w 7)
  unfold m_X7_set m_X10_give
  rw [h38, ← y_rd, e]
  by_cases hz : nI j = 0
  · rw [if_pos hz, if_pos hz]
    exact ⟨hQ, rfl, fun _ => rfl, rfl⟩
  · rw [if_neg hz, if_neg hz]
    dsimp only
    rw [hset, show (32 : Int32) * nI s = nI (32 * s) from pk_mul 32 s, nI_add, nI_clamp (by omega), nI_clamp (by omega)]
    exact ⟨Q_reg hQ hs hj v, rfl, fun _ => by simp [eb_pJ], funext fun b => by simp [eb_pJ]; intro q; omega⟩
theorem O_go {n t : Nat} {u : Int32} {s : Nat} {c r : eb_St} (h : Q n t u 0 c r) (hs : s < 7) (hset : m_X10_set r = nI s) (hl : s = 6 ∨ ¬ r.1 6 s = 0) (h95 : c.2 9 5 = r.2 3 s + 4) : yO n t u s (r.1 0 8) ((-1), c) (m_X10_goesOn r) := by
  unfold m_X10_goesOn
  dsimp only
  rw [hset, nI_clamp (by omega)]
  exact ⟨rfl, Or.inl ⟨rfl, rfl, O_pc h hs h95⟩⟩
theorem O_fin {n t : Nat} {u : Int32} {s : Nat} {w : Int32} {c r : eb_St} (h : yD n t u s w c r) {v v' : Int64} (hv : v = v') : yO n t u s (r.1 0 8) (m_X3_finish c s w v) (m_X10_sets r v') := by
  subst hv
  obtain ⟨g1, g2, g3, g4⟩ := D_give h v
  obtain ⟨hQ, hs, hset, hl, h37, h38, h41, h39, h40, h42, h95⟩ := h
  have hp := Q_pc0 hQ hs hl
  have k := O_go (r := m_X10_give r (r.1 0 38) v) g1 hs (by unfold m_X10_set at hset ⊢; rw [g2]; exact hset) (by rw [g2]; exact hl) (by rw [g4, g3, h95, hp])
  rw [g2] at k
  exact k
theorem O_jmp {n t : Nat} {u : Int32} {s : Nat} {w : Int32} {c r : eb_St} (h : yD n t u s w c r) {x y b : Int64} (hx : x = y) (hb : b = c.2 (19 + s) 1 + 4) : yO n t u s (r.1 0 8) (m_X3_jump c s w x) (m_X10_jumps r y b) := by
  subst hx
  unfold m_X3_jump m_X10_jumps
  by_cases q : x &&& 3 = 0
  · rw [if_pos q, if_pos q]
    have h' : yD n t u s w c r := h
    obtain ⟨g1, g2, g3, g4⟩ := D_give h b
    obtain ⟨hQ, hs, hset, hl, h37, h38, h41, h39, h40, h42, h95⟩ := h
    have e1 : (eb_pJ c 9 5 x).2 (19 + s) 1 + 4 = b := by
      rw [hb]
      congr 1
      show (if 19 + s = 9 ∧ 1 = 5 then x else c.2 (19 + s) 1) = _
      rw [if_neg (by omega)]
    have hset2 : m_X10_set (m_X10_give r (r.1 0 38) b) = nI s := by unfold m_X10_set at hset ⊢; rw [g2]; exact hset
    show yO n t u s (r.1 0 8) ((-1), m_X7_set (eb_pJ c 9 5 x) s (eb_iushr w 7) ((eb_pJ c 9 5 x).2 (19 + s) 1 + 4)) ((-1), eb_pJ (m_X10_give r (r.1 0 38) b) 3 (m_X10_set (m_X10_give r (r.1 0 38) b)).toNatClampNeg x)
    rw [e1, hset2, nI_clamp (by omega)]
    have e2 : m_X7_set (eb_pJ c 9 5 x) s (eb_iushr w 7) b = eb_pJ (m_X7_set c s (eb_iushr w 7) b) 9 5 x := by
      unfold m_X7_set
      by_cases z : (eb_iushr w 7) &&& 31 = 0
      · rw [if_pos z, if_pos z]
      · rw [if_neg z, if_neg z]
        refine Prod.ext rfl (funext fun a => funext fun k => ?_)
        show (if a = 26 + s ∧ k = _ then b else if a = 9 ∧ k = 5 then x else c.2 a k) = if a = 9 ∧ k = 5 then x else if a = 26 + s ∧ k = _ then b else c.2 a k
        by_cases z2 : a = 9 ∧ k = 5
        · rw [if_neg (by omega), if_pos z2, if_pos z2]
        · rw [if_neg z2, if_neg z2]
    rw [e2]
    refine ⟨by show (m_X10_give r (r.1 0 38) b).1 0 8 = _; rw [g2], Or.inl ⟨rfl, rfl, ?_⟩⟩
    exact O_pc (Q_c9 g1 5 x) hs (by simp [eb_pJ])
  · rw [if_neg q, if_neg q]
    exact O_flt (f := 0) h.1 (by decide) (by decide) rfl
theorem y_8 (x : Int32) : (x &&& 7) = 0 ∨ (x &&& 7) = 1 ∨ (x &&& 7) = 2 ∨ (x &&& 7) = 3 ∨ (x &&& 7) = 4 ∨ (x &&& 7) = 5 ∨ (x &&& 7) = 6 ∨ (x &&& 7) = 7 := by
  obtain ⟨j, hj, e⟩ := pk_andE x (m := 7) 3 (by decide)
  rw [e]
  have h : j = 0 ∨ j = 1 ∨ j = 2 ∨ j = 3 ∨ j = 4 ∨ j = 5 ∨ j = 6 ∨ j = 7 := by omega
  rcases h with rfl | rfl | rfl | rfl | rfl | rfl | rfl | rfl <;> decide
theorem y_rt (x : Int32) : x.toInt64.toInt32 = x := yb_ext fun i hi => by rw [yb_nar _ hi, yl_wide _ (by omega), if_pos hi]
theorem O_imm {n t : Nat} {u : Int32} {s : Nat} {w : Int32} {c r : eb_St} (h : yD n t u s w c r) : yO n t u s (r.1 0 8) (m_X3_withImmediate c s w) (m_X10_immediate r) := by
  have hx := D_x1 h
  have h41 := h.2.2.2.2.2.2.1
  have h37 := h.2.2.2.2.1
  have hk : m_X3_kind w = r.1 0 41 := by rw [h41]; exact y_f3 w
  unfold m_X3_withImmediate m_X10_immediate
  rw [hx, hk, h37]
  unfold m_X3_withImmediate_27 m_X3_withImmediate_28 m_X3_withImmediate_40 m_X3_withImmediate_56 m_X0_basic
  dsimp only
  rw [y_rt]
  simp only [y_cu]
  have h8 := y_8 (w >>> (12 &&& 31))
  rw [← h41] at h8
  generalize eb_iushr w 26 = x
  rcases h8 with q | q | q | q | q | q | q | q
  · simp (decide := true) only [q, if_true, if_false]
    exact O_fin h rfl
  · simp (decide := true) only [q, if_true, if_false]
    by_cases z : x = 0
    · rw [if_pos z, if_pos z]; exact O_fin h rfl
    · rw [if_neg z, if_neg z]; exact O_ill h
  · simp (decide := true) only [q, if_true, if_false]
    by_cases z : (w >>> (20 &&& 31)).toInt64 ≤ m_X3_first c s w
    · rw [if_pos z, if_pos z]; exact O_fin h rfl
    · rw [if_neg z, if_neg z]; exact O_fin h rfl
  · simp (decide := true) only [q, if_true, if_false]
    cases m_X10_isBelow (m_X3_first c s w) ((w >>> (20 &&& 31)).toInt64)
    · exact O_fin h rfl
    · exact O_fin h rfl
  · simp (decide := true) only [q, if_true, if_false]
    exact O_fin h rfl
  · simp (decide := true) only [q, if_true, if_false]
    by_cases z : x = 0
    · simp only [if_pos z, if_neg (show ¬ x = 16 by rw [z]; decide)]; exact O_fin h rfl
    · by_cases z2 : x = 16
      · simp only [if_neg z, if_pos z2]; exact O_fin h rfl
      · simp only [if_neg z, if_neg z2]; exact O_ill h
  · simp (decide := true) only [q, if_true, if_false]
    exact O_fin h rfl
  · simp (decide := true) only [q, if_true, if_false]
    exact O_fin h rfl
