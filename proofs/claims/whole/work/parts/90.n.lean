/-! the system's instructions, and a whole instruction -/
theorem Q_md {n t : Nat} {u : Int32} {v : Int64} {c r : eb_St} (h : Q n t u v c r) : (r.1 0 4 = 0 → c.1 9 3 = 0) ∧ (¬ r.1 0 4 = 0 → c.1 9 3 = 3 ∧ r.1 0 8 = -1) := by
  have s11 := h.1.2.2.2.1.2.2.2.2.2.2.2.2.2.2.1
  refine ⟨fun z => by rw [s11, if_pos z], fun z => ⟨by rw [s11, if_neg z], ?_⟩⟩
  rcases h.1.2.2.2.2.1.1 with i | ⟨k, hk, _, _, i⟩
  · exact i
  · exact absurd i z
theorem y_accI {c : eb_St} {s : Nat} {w : Int32} (h : ¬ c.1 9 3 = 3 ∨ m_X3_kind w = 4) : m_X3_access c s w = m_X3_illegal c w := by
  have key : ∀ a b d e f g, m_X3_access_65 c s w (m_X3_kind w) a b d e = m_X3_illegal c w ∨ f = g + 1 := fun a b d e f g => by
    left
    unfold m_X3_access_65
    by_cases q : c.1 9 3 = 3
    · rw [if_pos q, if_pos (h.resolve_left (fun z => z q))]
    · rw [if_neg q]
  have key2 : ∀ a b d e, m_X3_access_65 c s w (m_X3_kind w) a b d e = m_X3_illegal c w := fun a b d e => (key a b d e 0 0).resolve_right (by omega)
  unfold m_X3_access m_X3_access_32 m_X3_access_37
  dsimp only
  simp only [key2]
  split
  · split <;> rfl
  · split
    · split <;> rfl
    · split <;> rfl
theorem O_mret {n t : Nat} {s : Nat} {w : Int32} {c r : eb_St} (h : yD n t 0 s w c r) (hm : ¬ r.1 0 4 = 0) : yO n t 0 s (r.1 0 8) (m_X3_returnFromM c) (if (r.2 0 15) = 3 then ((-1), eb_pJ (eb_pI (eb_pJ r 3 6 (r.2 0 17)) 0 4 1) 0 15 0) else ((-1), eb_pJ (eb_pI (eb_pJ r 3 6 (r.2 0 17)) 0 4 0) 0 15 0)) := by
  obtain ⟨hQ, hs, hset, hl, h37, h38, h41, h39, h40, h42, h95⟩ := h
  have hrun := ((Q_md hQ).2 hm).2
  have hs6 : s = 6 := by
    unfold m_X10_set at hset
    rw [hrun, if_pos (show (-1 : Int32) < 0 by decide)] at hset
    exact ((nI_eq (a := 6) (by omega) (by omega)).mp hset).symm
  subst hs6
  obtain ⟨s1, s2, s3, s4, s5, s6, s7, s8, s9, s10, s11, s12, s13, s14, s15, s16, s17, s18, s19, s20, s21, s22⟩ := hQ.1.2.2.2.1
  have hX := hQ.1.2.1
  have key : ∀ (b m : Int32), c.1 8 1 = m → m = (if b = 0 then 0 else 3) → Q n t 0 0 (eb_pJ (eb_pI (eb_pI (eb_pJ c 9 5 (c.2 8 3)) 9 3 (c.1 8 1)) 8 1 0) (19 + 6) 1 (c.2 8 3)) (eb_pJ (eb_pI (eb_pJ r 3 6 (r.2 0 17)) 0 4 b) 0 15 0) := fun b m em eb => by
    refine Q_sc hQ (fun q b _ h8 h9 _ => (pI_o h8).trans (pI_o h9)) (fun q b hq _ h8 h9 _ _ => (pJ_o (by omega)).trans (pJ_o h9)) (fun q b h0 => pI_o h0) (fun q b h0 h2 h3 => (pJ_o h0).trans (pJ_o h3)) rfl rfl (Or.inl rfl) ⟨s1, s2, s3, s4, s5, s6, s7, s8, s9, s10, em.trans eb, rfl, Or.inl rfl, s14, s15, s16, s17, s18, s19, s20, s21, s22⟩ ?_ (Or.inl hrun)
    intro s' hs' hl'
    have hl2 : s' = 6 ∨ ¬ r.1 6 s' = 0 := hl'
    obtain ⟨a1, a2⟩ := hX s' hs' hl2
    refine ⟨fun j hj => ?_, ?_⟩
    · refine ((pJ_o (by omega)).trans (pJ_o (by omega))).trans ((a1 j hj).trans ?_)
      have e0 : (eb_pJ (eb_pI (eb_pJ r 3 6 (r.2 0 17)) 0 4 b) 0 15 0).2 2 (32 * s' + j) = r.2 2 (32 * s' + j) := rfl
      exact e0.symm
    · by_cases q : s' = 6
      · subst q
        show r.2 0 17 = c.2 8 3 + 0
        rw [Int64.add_zero]; exact s15.symm
      · have e1 : (eb_pJ (eb_pI (eb_pJ r 3 6 (r.2 0 17)) 0 4 b) 0 15 0).2 3 s' = r.2 3 s' := (pJ_o (by omega)).trans (pJ_p q)
        have e2 : (eb_pJ (eb_pI (eb_pI (eb_pJ c 9 5 (c.2 8 3)) 9 3 (c.1 8 1)) 8 1 0) (19 + 6) 1 (c.2 8 3)).2 (19 + s') 1 = c.2 (19 + s') 1 := (pJ_o (by omega)).trans (pJ_o (by omega))
        rw [e1, e2]; exact a2
  rcases s13 with z | z
  · rw [if_neg (by rw [z]; decide)]
    exact ⟨rfl, Or.inl ⟨rfl, rfl, key 0 0 (by rw [s12, z]; rfl) rfl⟩⟩
  · rw [if_pos z]
    exact ⟨rfl, Or.inl ⟨rfl, rfl, key 1 3 (by rw [s12, z]; rfl) rfl⟩⟩
theorem O_sys {n t : Nat} {s : Nat} {w : Int32} {c r : eb_St} (h : yD n t 0 s w c r) (hw : ¬ w = 115) {p : Int64} (hp : p = c.2 (19 + s) 1) : yO n t 0 s (r.1 0 8) (if m_X3_kind w = 0 then m_X3_environment c s w else m_X3_access c s w) (m_X10_system r p) := by
  have h41 := h.2.2.2.2.2.2.1
  have h37 := h.2.2.2.2.1
  have hk : m_X3_kind w = r.1 0 41 := by rw [h41]; exact y_f3 w
  unfold m_X10_system
  by_cases k4 : r.1 0 41 = 4
  · rw [if_pos k4, if_neg (show ¬ m_X3_kind w = 0 by rw [hk, k4]; decide), y_accI (Or.inr (by rw [hk]; exact k4))]
    exact O_ill h
  rw [if_neg k4]
  by_cases k0 : r.1 0 41 = 0
  · rw [if_pos k0, if_pos (hk.trans k0), h37, if_neg hw]
    unfold m_X3_environment
    rw [if_neg hw]
    by_cases w1 : w = 1048691
    · rw [if_pos w1, if_pos w1]
      exact O_flt (f := 3) h.1 (by decide) (by decide) hp.symm
    rw [if_neg w1, if_neg w1]
    by_cases w2 : w = 273678451
    · rw [if_pos w2, if_pos w2]
      exact O_go h.1 h.2.1 h.2.2.1 h.2.2.2.1 (by rw [h.2.2.2.2.2.2.2.2.2.2, Q_pc0 h.1 h.2.1 h.2.2.2.1])
    rw [if_neg w2, if_neg w2]
    by_cases w3 : w = 807403635
    · rw [if_pos w3, if_pos w3]
      by_cases m0 : r.1 0 4 = 0
      · rw [if_pos m0, if_neg (show ¬ c.1 9 3 = 3 by rw [(Q_md h.1).1 m0]; decide)]
        exact O_ill h
      · rw [if_neg m0, if_pos ((Q_md h.1).2 m0).1]
        exact O_mret h m0
    rw [if_neg w3, if_neg w3]
    exact O_ill h
  rw [if_neg k0, if_neg (fun z => k0 (hk.symm.trans z))]
  by_cases m0 : r.1 0 4 = 0
  · rw [if_pos m0, y_accI (Or.inl (show ¬ c.1 9 3 = 3 by rw [(Q_md h.1).1 m0]; decide))]
    exact O_ill h
  · rw [if_neg m0]
    exact O_csr h ((Q_md h.1).2 m0).1 k4
def ydec (r : eb_St) (w : Int32) : eb_St := eb_pI (eb_pI (eb_pI (eb_pI (eb_pI (eb_pI r 0 37 w) 0 38 ((w >>> (7 &&& 31)) &&& 31)) 0 41 ((w >>> (12 &&& 31)) &&& 7)) 0 39 ((w >>> (15 &&& 31)) &&& 31)) 0 40 ((w >>> (20 &&& 31)) &&& 31)) 0 42 (eb_iushr w 25)
def ydsp (r1 : eb_St) (w : Int32) (p : Int64) : Int32 × eb_St := if (w &&& 127) = 3 then m_X10_loads r1 else if (w &&& 127) = 15 then (if ((w >>> (12 &&& 31)) &&& 7) ≤ 1 then m_X10_goesOn r1 else m_X10_illegal r1) else if (w &&& 127) = 19 then m_X10_immediate r1 else if (w &&& 127) = 23 then m_X10_sets r1 (p + ((w &&& (-4096)).toInt64)) else if (w &&& 127) = 27 then m_X10_immediateW r1 else if (w &&& 127) = 35 then m_X10_stores r1 else if (w &&& 127) = 51 then m_X10_registers r1 else if (w &&& 127) = 55 then m_X10_sets r1 ((w &&& (-4096)).toInt64) else if (w &&& 127) = 59 then m_X10_registersW r1 else if (w &&& 127) = 99 then m_X10_branches r1 p else if (w &&& 127) = 103 then (if ((w >>> (12 &&& 31)) &&& 7) = 0 then m_X10_jumps r1 ((m_X10_x r1 ((w >>> (15 &&& 31)) &&& 31) + ((w >>> (20 &&& 31)).toInt64)) &&& (-2)) (p + 4) else m_X10_illegal r1) else if (w &&& 127) = 111 then m_X10_jumps r1 (p + m_X10_jump r1) (p + 4) else if (w &&& 127) = 115 then m_X10_system r1 p else m_X10_illegal r1
theorem y_ins (r : eb_St) : m_X10_instruction r = (if ((r.2 3 (m_X10_set r).toNatClampNeg) &&& 3) = 0 then (if (eb_b (m_X10_isMemory (r.2 3 (m_X10_set r).toNatClampNeg) 4)) = 0 then m_X10_fault r 1 (r.2 3 (m_X10_set r).toNatClampNeg) else (if (eb_b (m_X10_lets r (r.2 3 (m_X10_set r).toNatClampNeg).toInt32 4 4 (r.1 0 4)).1) = 0 then m_X10_fault (m_X10_lets r (r.2 3 (m_X10_set r).toNatClampNeg).toInt32 4 4 (r.1 0 4)).2 1 (r.2 3 (m_X10_set r).toNatClampNeg) else ydsp (ydec (m_X10_lets r (r.2 3 (m_X10_set r).toNatClampNeg).toInt32 4 4 (r.1 0 4)).2 (m_X10_take (m_X10_lets r (r.2 3 (m_X10_set r).toNatClampNeg).toInt32 4 4 (r.1 0 4)).2 (r.2 3 (m_X10_set r).toNatClampNeg).toInt32 4).toInt32) (m_X10_take (m_X10_lets r (r.2 3 (m_X10_set r).toNatClampNeg).toInt32 4 4 (r.1 0 4)).2 (r.2 3 (m_X10_set r).toNatClampNeg).toInt32 4).toInt32 (r.2 3 (m_X10_set r).toNatClampNeg))) else m_X10_fault r 0 (r.2 3 (m_X10_set r).toNatClampNeg)) := rfl
theorem D_dec {n t : Nat} {u : Int32} {s : Nat} {w : Int32} {c r : eb_St} (hQ : Q n t u 0 c r) (hs : s < 7) (hset : m_X10_set r = nI s) (hl : s = 6 ∨ ¬ r.1 6 s = 0) (h95 : c.2 9 5 = c.2 (19 + s) 1 + 4) : yD n t u s w c (ydec r w) :=
  ⟨Q_r0 (Q_r0 (Q_r0 (Q_r0 (Q_r0 (Q_r0 hQ (by omega) _) (by omega) _) (by omega) _) (by omega) _) (by omega) _) (by omega) _, hs, hset, hl, rfl, rfl, rfl, rfl, rfl, rfl, h95⟩
theorem O_perf {n t : Nat} {s : Nat} {w : Int32} {c r : eb_St} (h : yD n t 0 s w c r) (hw : ¬ w = 115) {p : Int64} (hp : p = c.2 (19 + s) 1) : yO n t 0 s (r.1 0 8) (m_X3_perform c s w) (ydsp r w p) := by
  have h41 := h.2.2.2.2.2.2.1
  have h37 := h.2.2.2.2.1
  have h39 := h.2.2.2.2.2.2.2.1
  have hk : m_X3_kind w = r.1 0 41 := by rw [h41]; exact y_f3 w
  unfold m_X3_perform ydsp
  dsimp only
  rw [hk, ← h41, ← h39, D_x1 h]
  by_cases o1 : (w &&& 127) = 3
  · rw [if_pos o1, if_pos o1]; exact O_load h
  rw [if_neg o1, if_neg o1]
  by_cases o2 : (w &&& 127) = 15
  · rw [if_pos o2, if_pos o2]
    by_cases q : r.1 0 41 ≤ 1
    · rw [if_pos q, if_neg (eb_nlt_of_le q)]
      exact O_go h.1 h.2.1 h.2.2.1 h.2.2.2.1 (by rw [h.2.2.2.2.2.2.2.2.2.2, Q_pc0 h.1 h.2.1 h.2.2.2.1])
    · rw [if_neg q, if_pos (show (1 : Int32) < r.1 0 41 by rw [Int32.le_iff_toInt_le] at q; rw [Int32.lt_iff_toInt_lt]; omega)]
      exact O_ill h
  rw [if_neg o2, if_neg o2]
  by_cases o3 : (w &&& 127) = 19
  · rw [if_pos o3, if_pos o3]; exact O_imm h
  rw [if_neg o3, if_neg o3]
  by_cases o4 : (w &&& 127) = 23
  · rw [if_pos o4, if_pos o4]; exact O_fin h (by rw [hp])
  rw [if_neg o4, if_neg o4]
  by_cases o5 : (w &&& 127) = 27
  · rw [if_pos o5, if_pos o5]; exact O_immW h
  rw [if_neg o5, if_neg o5]
  by_cases o6 : (w &&& 127) = 35
  · rw [if_pos o6, if_pos o6]; exact O_store h
  rw [if_neg o6, if_neg o6]
  by_cases o7 : (w &&& 127) = 51
  · rw [if_pos o7, if_pos o7]; exact O_reg h
  rw [if_neg o7, if_neg o7]
  by_cases o8 : (w &&& 127) = 55
  · rw [if_pos o8, if_pos o8]; exact O_fin h rfl
  rw [if_neg o8, if_neg o8]
  by_cases o9 : (w &&& 127) = 59
  · rw [if_pos o9, if_pos o9]; exact O_regW h
  rw [if_neg o9, if_neg o9]
  by_cases o10 : (w &&& 127) = 99
  · rw [if_pos o10, if_pos o10]; exact O_br h hp
  rw [if_neg o10, if_neg o10]
  by_cases o11 : (w &&& 127) = 103
  · rw [if_pos o11, if_pos o11]
    unfold m_X3_jumpByRegister
    dsimp only
    rw [hk]
    by_cases q : r.1 0 41 = 0
    · rw [if_pos q, if_pos q]; exact O_jmp h rfl (by rw [hp])
    · rw [if_neg q, if_neg q]; exact O_ill h
  rw [if_neg o11, if_neg o11]
  by_cases o12 : (w &&& 127) = 111
  · rw [if_pos o12, if_pos o12]
    refine O_jmp h ?_ (by rw [hp])
    unfold m_X10_jump
    rw [h37, hp, y_jo]
  rw [if_neg o12, if_neg o12]
  by_cases o13 : (w &&& 127) = 115
  · rw [if_pos o13, if_pos o13]
    have k := O_sys h hw hp
    rw [hk] at k
    exact k
  rw [if_neg o13, if_neg o13]
  exact O_ill h
def yO2 (n t : Nat) (R8 : Int32) (a b : Int32 × eb_St) : Prop :=
  b.2.1 0 8 = R8 ∧ ((a.1 = -1 ∧ b.1 = -1 ∧ Q n t 0 0 a.2 b.2) ∨ (¬ a.1 = -1 ∧ ¬ a.1 = 11 ∧ b.1 = a.1 ∧ a.2.2 9 4 = b.2.2 0 36 ∧ Q n t 0 0 a.2 b.2))
theorem O_exec {n t : Nat} {s : Nat} {c r : eb_St} (h : Q n t 0 0 c r) (hs : s < 7) (hset : m_X10_set r = nI s) (hl : s = 6 ∨ ¬ r.1 6 s = 0) : yO2 n t (r.1 0 8) (m_X3_execute c s) (m_X10_instruction r) ∨ ∃ c1 r1, yD n t 0 s 115 c1 r1 ∧ r1.1 0 8 = r.1 0 8 ∧ m_X3_execute c s = (11, eb_pJ c1 9 4 0) ∧ m_X10_instruction r = m_X10_system r1 (c1.2 (19 + s) 1) := by
  have hpc := Q_pc0 h hs hl
  have toO2 : ∀ {a b : Int32 × eb_St} {R8 : Int32}, yO n t 0 s R8 a b → yO2 n t R8 (if a.1 = -1 then (a.1, eb_pJ a.2 (19 + s) 1 (a.2.2 9 5)) else (a.1, a.2)) b := fun {a b R8} k => by
    obtain ⟨k0, k⟩ := k
    refine ⟨k0, ?_⟩
    rcases k with ⟨k1, k2, k3⟩ | ⟨k1, k2, k3, k4, k5⟩
    · rw [if_pos k1]; exact Or.inl ⟨k1, k2, k3⟩
    · rw [if_neg k1]; exact Or.inr ⟨k1, k2, k3, k4, k5⟩
  have fl : ∀ (f : Int32) (r' : eb_St), Q n t 0 0 c r' → r'.1 0 8 = r.1 0 8 → ¬ f = -1 → ¬ f = 11 → yO2 n t (r.1 0 8) (m_X3_fault c f (c.2 (19 + s) 1)) (m_X10_fault r' f (c.2 (19 + s) 1)) := fun f r' hQ' h8 h1 h2 => by
    have k := O_flt (s := s) (f := f) (v := c.2 (19 + s) 1) hQ' h1 h2 rfl
    obtain ⟨k0, k⟩ := k
    refine ⟨k0.trans h8, ?_⟩
    rcases k with ⟨k1, k2, k3⟩ | k
    · exact absurd k1 h1
    · exact Or.inr k
  rw [y_ins, hset, nI_clamp (by omega), hpc]
  unfold m_X3_execute
  by_cases q : (c.2 (19 + s) 1 &&& 3) = 0
  · rw [if_pos q, if_pos q]
    rcases Q_letsM h (c.2 (19 + s) 1) (z := 4) (Or.inr (Or.inr (Or.inl rfl))) (need := 4) (Or.inr (Or.inr rfl)) with ⟨m1, m2⟩ | ⟨m1, a, ha, ex, ei, l1, l2, l3⟩
    · left
      rw [show m_X10_isMemory (c.2 (19 + s) 1) 4 = false from m1, show m_X6_lets c (c.1 9 3) (c.2 (19 + s) 1) 4 4 = false from m2]
      exact fl 1 r h rfl (by decide) (by decide)
    · rw [show m_X10_isMemory (c.2 (19 + s) 1) 4 = true from m1, if_neg (show ¬ eb_b true = 0 by decide), show (m_X10_lets r (c.2 (19 + s) 1).toInt32 4 4 (r.1 0 4)).1 = m_X6_lets c (c.1 9 3) (c.2 (19 + s) 1) 4 4 from l1]
      have h8 : (m_X10_lets r (c.2 (19 + s) 1).toInt32 (nI 4) 4 (r.1 0 4)).2.1 0 8 = r.1 0 8 := l3.1 0 8 (by omega)
      have hset2 : m_X10_set (m_X10_lets r (c.2 (19 + s) 1).toInt32 (nI 4) 4 (r.1 0 4)).2 = nI s := by unfold m_X10_set at hset ⊢; rw [h8]; exact hset
      have hl2 : s = 6 ∨ ¬ (m_X10_lets r (c.2 (19 + s) 1).toInt32 (nI 4) 4 (r.1 0 4)).2.1 6 s = 0 := by rw [l3.1 6 s (by omega)]; exact hl
      rw [show (4 : Int32) = nI 4 from rfl] at *
      generalize (m_X10_lets r (c.2 (19 + s) 1).toInt32 (nI 4) (nI 4) (r.1 0 4)).2 = r' at l2 h8 hset2 hl2 ⊢
      cases m_X6_lets c (c.1 9 3) (c.2 (19 + s) 1) (nI 4) (nI 4) with
      | false =>
        left
        exact fl 1 r' l2 h8 (by decide) (by decide)
      | true =>
        have hal : a % 4 = 0 := (y_al (z := 4) (by omega) (Or.inr (Or.inr (Or.inl rfl)))).mp (by rw [← ex]; exact q)
        have epc : (eb_pJ c 9 5 (c.2 (19 + s) 1 + 4)).2 (19 + s) 1 = c.2 (19 + s) 1 := pJ_o (by omega)
        have eld : m_X4_load (eb_pJ c 9 5 (c.2 (19 + s) 1 + 4)) ((eb_pJ c 9 5 (c.2 (19 + s) 1 + 4)).2 (19 + s) 1).toInt32 (nI 4) = m_X10_take r' (c.2 (19 + s) 1).toInt32 (nI 4) := by
          rw [epc, ei]
          exact qM_load (Q_c9 l2 5 (c.2 (19 + s) 1 + 4)).1.1 ha (Or.inr (Or.inr (Or.inl rfl))) hal
        dsimp only
        simp only [if_neg (show ¬ eb_b true = 0 by decide)]
        rw [show (4 : Int64) = lN 4 from rfl] at *
        rw [eld]
        generalize (m_X10_take r' (c.2 (19 + s) 1).toInt32 (nI 4)).toInt32 = w
        have hD : yD n t 0 s w (eb_pJ c 9 5 (c.2 (19 + s) 1 + lN 4)) (ydec r' w) := D_dec (Q_c9 l2 5 _) hs hset2 hl2 (by rw [epc]; simp [eb_pJ]; rfl)
        by_cases hw : w = 115
        · right
          subst hw
          refine ⟨eb_pJ c 9 5 (c.2 (19 + s) 1 + lN 4), ydec r' 115, hD, h8, rfl, ?_⟩
          rw [epc]
          rfl
        · left
          have k := toO2 (O_perf hD hw epc.symm)
          have h9 : (ydec r' w).1 0 8 = r.1 0 8 := h8
          rw [h9] at k
          exact k
  · rw [if_neg q, if_neg q]
    left
    exact fl 0 r h rfl (by decide) (by decide)
