/-! entering, removing, and an enclave's calls -/
theorem pI_comm {σ : eb_St} {k j k' j' : Nat} {v v' : Int32} (h : ¬ k = k') : eb_pI (eb_pI σ k j v) k' j' v' = eb_pI (eb_pI σ k' j' v') k j v := Prod.ext (funext fun a => funext fun b => by
  show (if a = k' ∧ b = j' then v' else if a = k ∧ b = j then v else σ.1 a b) = if a = k ∧ b = j then v else if a = k' ∧ b = j' then v' else σ.1 a b
  by_cases h1 : a = k' ∧ b = j'
  · rw [if_pos h1, if_neg (by omega), if_pos h1]
  · rw [if_neg h1, if_neg h1]) rfl
theorem y_give {r : eb_St} {s j : Nat} (hset : m_X10_set r = nI s) (hs : s < 7) (h0 : 0 < j) (hj : j < 32) (v : Int64) : m_X10_give r (nI j) v = eb_pJ r 2 (32 * s + j) v := by
  unfold m_X10_give
  rw [if_neg (nI_ne0 h0 (by omega))]
  dsimp only
  rw [hset, show (32 : Int32) * nI s = nI (32 * s) from pk_mul 32 s, nI_add, nI_clamp (by omega)]
theorem y_setc {c : eb_St} {s j : Nat} (h0 : 0 < j) (hj : j < 32) (v : Int64) : m_X7_set c s (nI j) v = eb_pJ c (26 + s) j v := by
  have e : nI j &&& 31 = nI j := by
    rw [pk_andN (n := j) (by omega) (m := 31) 5 (by decide)]
    congr 1
    exact Nat.mod_eq_of_lt hj
  unfold m_X7_set
  rw [e, if_neg (nI_ne0 h0 (by omega)), nI_clamp (by omega)]
theorem Q_give {n t : Nat} {u : Int32} {v : Int64} {c r : eb_St} (h : Q n t u v c r) {s j : Nat} (hset : m_X10_set r = nI s) (hs : s < 7) (h0 : 0 < j) (hj : j < 32) {x y : Int64} (hxy : x = y) : Q n t u v (m_X7_set c s (nI j) x) (m_X10_give r (nI j) y) ∧ (m_X10_give r (nI j) y).1 = r.1 ∧ (m_X7_set c s (nI j) x).1 = c.1 ∧ (∀ q b, ¬ q = 2 → (m_X10_give r (nI j) y).2 q b = r.2 q b) ∧ (∀ q b, ¬ q = 26 + s → (m_X7_set c s (nI j) x).2 q b = c.2 q b) := by
  rw [y_give hset hs h0 hj, y_setc h0 hj, hxy]
  exact ⟨Q_reg h hs hj y, rfl, rfl, fun q b hq => pJ_o hq, fun q b hq => pJ_o hq⟩
theorem y_set6 {r : eb_St} (h : r.1 0 8 = -1) : m_X10_set r = nI 6 := by
  unfold m_X10_set
  rw [h]
  rfl
theorem y_setE {r : eb_St} {e : Nat} (he : e < 6) (h : r.1 0 8 = nI e) : m_X10_set r = nI e := by
  unfold m_X10_set
  rw [h, if_neg (nI_pos (by omega))]
theorem Q_enter {n : Nat} {u : Int32} {v : Int64} {c r : eb_St} (h : Q n 6 u v c r) (hr : r.1 0 8 = -1) (hm0 : r.1 0 4 = 0) {e : Nat} (he : e < 6) (hl : ¬ r.1 6 e = 0) : Q n 6 u v (m_X5_enter c (nI e)) (m_X10_enter r (nI e)) := by
  have hset := y_set6 hr
  obtain ⟨E1, E2, E3, E4, E5, E6, E7, E8, E9, E10⟩ := h.1.2.2.1 e he
  unfold m_X5_enter m_X10_enter
  rw [nI_clamp (by omega), E1]
  by_cases q : r.1 6 e = 3
  · rw [if_pos q, if_pos q]
    exact (Q_give h hset (by omega) (j := 10) (by omega) (by omega) rfl).1
  · rw [if_neg q, if_neg q]
    dsimp only
    have hx : m_X10_x r 11 = c.2 32 11 := y_x h (s := 6) (by omega) hset (Or.inl rfl) (j := 11) (by omega)
    rw [hx]
    have hg : m_X7_get (eb_pI (eb_pI (eb_pI (eb_pI c (13 + e) 1 4) (13 + e) 7 ((eb_pI c (13 + e) 1 4).1 (13 + e) 7 + 1)) 10 11 ((eb_pI (eb_pI c (13 + e) 1 4) (13 + e) 7 ((eb_pI c (13 + e) 1 4).1 (13 + e) 7 + 1)).1 10 11 + 1)) 10 6 (nI e)) 6 11 = c.2 32 11 := rfl
    rw [hg]
    generalize c.2 32 11 = z
    have e7 : (eb_pI c (13 + e) 1 4).1 (13 + e) 7 = c.1 (13 + e) 7 := pI_p (by omega)
    have e11 : ∀ x, (eb_pI (eb_pI c (13 + e) 1 4) (13 + e) 7 x).1 10 11 = c.1 10 11 := fun x => (pI_o (by omega)).trans (pI_o (by omega))
    have e12 : (eb_pI (eb_pI (eb_pI (eb_pI (eb_pI (eb_pJ r 0 31 z) 0 32 0) 6 e 4) 0 8 (nI e)) 0 35 0) 0 11 (r.1 0 11 + 1)).1 12 e = r.1 12 e := rfl
    rw [e11, e7, e12, E7]
    have hm := Qm_of h
    obtain ⟨s1, s2, s3, s4, s5, s6, s7, s8, s9, s10, s11, s12, s13, s14, s15, s16, s17, s18, s19, s20, s21, s22⟩ := hm.2.2.2.1
    have m0 : Qm n 6 u v (eb_pJ (eb_pJ c 10 7 z) 10 8 0) (eb_pI (eb_pJ r 0 31 z) 0 32 0) :=
      Qm_sc hm (fun q b _ _ _ _ => rfl) (fun q b _ _ _ h10 _ => (pJ_o h10).trans (pJ_o h10)) (fun q b h0 => pI_o h0) (fun q b h0 => pJ_o h0) rfl ⟨s1, s2, s3, s4, s5, s6, s7, s8, s9, s10, s11, s12, s13, s14, s15, s16, s17, s18, rfl, (by decide : (0 : Int32).toInt64 = (0 : Int64) + (if 6 < 6 then 1 else 0)), (by decide : (if 6 < 6 then (1 : Int) else 0) ≤ (0 : Int32).toInt), by show (0 : Int32).toInt ≤ n; rw [show (0 : Int32).toInt = 0 by decide]; omega⟩
    have m1 := Qm_status m0 he (a := 4) (Or.inr (show ¬ (eb_pI (eb_pJ r 0 31 z) 0 32 0).1 6 e = 0 from hl))
    have m2 := Qm_stays m1 he (r.1 12 e + 1)
    have m3 : Qm n 6 u v (eb_pI (eb_pI (eb_pI (eb_pI (eb_pJ (eb_pJ c 10 7 z) 10 8 0) (13 + e) 1 4) (13 + e) 7 (r.1 12 e + 1)) 10 11 (c.1 10 11 + 1)) 10 6 (nI e)) (eb_pI (eb_pI (eb_pI (eb_pI (eb_pI (eb_pI (eb_pJ r 0 31 z) 0 32 0) 6 e 4) 12 e (r.1 12 e + 1)) 0 8 (nI e)) 0 35 0) 0 11 (r.1 0 11 + 1)) := by
      obtain ⟨s1, s2, s3, s4, s5, s6, s7', s8, s9, s10, s11, s12, s13, s14, s15, s16, s17, s18, s19, s20, s21, s22⟩ := m2.2.2.2.1
      exact Qm_sc m2 (fun q b _ _ _ h10 => (pI_o h10).trans (pI_o h10)) (fun q b _ _ _ _ _ => rfl) (fun q b h0 => (pI_o h0).trans ((pI_o h0).trans (pI_o h0))) (fun q b _ => rfl) rfl ⟨s1, s2, s3, rfl, s5, s6, congrArg (· + 1) s7, s8, s9, s10, s11, s12, s13, s14, s15, s16, s17, s18, s19, s20, s21, s22⟩
    have er : eb_pI (eb_pI (eb_pI (eb_pI (eb_pI (eb_pI (eb_pJ r 0 31 z) 0 32 0) 6 e 4) 0 8 (nI e)) 0 35 0) 0 11 (r.1 0 11 + 1)) 12 e (r.1 12 e + 1) = eb_pI (eb_pI (eb_pI (eb_pI (eb_pI (eb_pI (eb_pJ r 0 31 z) 0 32 0) 6 e 4) 12 e (r.1 12 e + 1)) 0 8 (nI e)) 0 35 0) 0 11 (r.1 0 11 + 1) := by
      rw [pI_comm (k := 0) (k' := 12) (by omega), pI_comm (k := 0) (k' := 12) (by omega), pI_comm (k := 0) (k' := 12) (by omega)]
    rw [er]
    refine Q_mk m3 (Or.inr ⟨e, he, rfl, ?_, hm0⟩) rfl
    show ¬ (eb_pI (eb_pI (eb_pI (eb_pI (eb_pI (eb_pI (eb_pJ r 0 31 z) 0 32 0) 6 e 4) 12 e (r.1 12 e + 1)) 0 8 (nI e)) 0 35 0) 0 11 (r.1 0 11 + 1)).1 6 e = 0
    rw [pI_o (by omega), pI_o (by omega), pI_o (by omega), pI_o (by omega), eb_rdI]
    decide
theorem y_geo {b s : Int32} {lo hi : Nat} (h : ygeo b s lo hi) (h3 : 3 ≤ lo) : ∃ B S : Nat, b = nI B ∧ s = nI S ∧ B + S ≤ 65536 ∧ B % 8 = 0 ∧ S % 8 = 0 ∧ 8 ≤ S := by
  obtain ⟨p, m, h1, h2, e1, e2, h5⟩ := h
  obtain ⟨k, rfl⟩ : ∃ k, p = k + 3 := ⟨p - 3, by omega⟩
  have e3 : 2 ^ (k + 3) = 8 * 2 ^ k := by rw [Nat.pow_add]; omega
  have e4 : 2 ^ (k + 3) * m = 8 * (2 ^ k * m) := by rw [e3, Nat.mul_assoc]
  have hp : 0 < 2 ^ k := Nat.two_pow_pos k
  exact ⟨2 ^ (k + 3) * m, 2 ^ (k + 3), e2, e1, h5, by omega, by omega, by omega⟩
theorem Qm_remove {n t : Nat} {u : Int32} {v : Int64} {c r : eb_St} (h : Qm n t u v c r) {e : Nat} (he : e < 6) (hl : ¬ r.1 6 e = 0) : Qm n t u v (m_X5_remove c e) (eb_pI (m_X10_clearMemory r (nI e)) 6 e 0) ∧ rF r (m_X10_clearMemory r (nI e)) := by
  obtain ⟨E1, E2, E3, E4, E5, E6, E7, E8, E9, E10⟩ := h.2.2.1 e he
  obtain ⟨B, S, b1, b2, b3, b4, b5, b6⟩ := y_geo (h.2.2.2.2.1 e he hl).1 (by omega)
  have hz := y_zero (a := B) (b := B + S) c (by omega) b3 (by omega)
  have hc := y_clear (r := r) he b3 b1 b2
  refine ⟨?_, hc.1⟩
  unfold m_X5_remove
  rw [if_neg (by rw [E1]; exact hl), E2, E3, b1, b2, nI_add]
  have hm := Qm_mem h hz.1 hc.1 (fun p hp => by rw [hz.2 p, hc.2 p, h.1 p hp])
  exact Qm_status hm he (Or.inl rfl)
theorem Q_destroy {n : Nat} {u : Int32} {v : Int64} {c r : eb_St} (h : Q n 6 u v c r) (hr : r.1 0 8 = -1) {e : Nat} (he : e < 6) (hl : ¬ r.1 6 e = 0) : Q n 6 u v (m_X7_set (m_X5_arrange (m_X5_remove c e)) 6 10 0) (m_X10_give (eb_pI (eb_pI (m_X10_clearMemory r (nI e)) 6 e 0) 0 35 0) 10 0) := by
  obtain ⟨m1, hF⟩ := Qm_remove (Qm_of h) he hl
  have h8 : (eb_pI (eb_pI (m_X10_clearMemory r (nI e)) 6 e 0) 0 35 0).1 0 8 = -1 := (hF.2 0 8 (by omega)).trans hr
  obtain ⟨s1, s2, s3, s4, s5, s6, s7, s8, s9, s10, s11, s12, s13, s14, s15, s16, s17, s18, s19, s20, s21, s22⟩ := m1.2.2.2.1
  have m2 : Qm n 6 u v (m_X5_remove c e) (eb_pI (eb_pI (m_X10_clearMemory r (nI e)) 6 e 0) 0 35 0) :=
    Qm_sc m1 (fun q b _ _ _ _ => rfl) (fun q b _ _ _ _ _ => rfl) (fun q b h0 => pI_o h0) (fun q b _ => rfl) rfl ⟨s1, s2, s3, s4, s5, s6, s7, s8, s9, s10, s11, s12, s13, s14, s15, s16, s17, s18, s19, s20, s21, s22⟩
  have q1 := Q_mk m2 (Or.inl h8) rfl
  exact (Q_give q1 (s := 6) (y_set6 h8) (by omega) (j := 10) (by omega) (by omega) rfl).1
/-- the calls of an enclave that goes on -/
theorem Q_ans {n : Nat} {u : Int32} {v : Int64} {c r : eb_St} (h : Q n 6 u v c r) {e : Nat} (he : e < 6) (h8 : r.1 0 8 = nI e) (hl : ¬ r.1 6 e = 0) (h1 : ¬ m_X7_get c e 17 = 1) : Q n 6 u v (m_X5_answerEnclave c e) (m_X10_enclaveCalls r) ∧ (m_X10_enclaveCalls r).1 = r.1 := by
  have hset := y_setE he h8
  obtain ⟨E1, E2, E3, E4, E5, E6, E7, E8, E9, E10⟩ := h.1.2.2.1 e he
  have hx : m_X10_x r 17 = m_X7_get c e 17 := y_x h (s := e) (by omega) hset (Or.inr hl) (j := 17) (by omega)
  unfold m_X5_answerEnclave m_X10_enclaveCalls
  dsimp only
  rw [hx, if_neg h1, h8, nI_clamp (by omega)]
  by_cases q2 : m_X7_get c e 17 = 2
  · rw [if_pos q2, if_pos q2]
    obtain ⟨g1, g2, _⟩ := Q_give h hset (by omega) (j := 10) (by omega) (by omega) (x := c.2 (13 + e) 10) (y := m_X10_key r (nI e)) (by rw [y_keyR, nI_clamp (by omega)]; exact E10 hl)
    exact ⟨g1, g2⟩
  · rw [if_neg q2, if_neg q2]
    by_cases q3 : m_X7_get c e 17 = 3
    · rw [if_pos q3, if_pos q3]
      obtain ⟨g1, a1, b1, _⟩ := Q_give h hset (by omega) (j := 10) (by omega) (by omega) (x := (c.1 (13 + e) 2).toInt64) (y := (r.1 7 e).toInt64) (by rw [E2])
      rw [show (10 : Int32) = nI 10 from rfl]
      generalize m_X7_set c e (nI 10) (c.1 (13 + e) 2).toInt64 = c1 at g1 b1
      generalize m_X10_give r (nI 10) (r.1 7 e).toInt64 = r1 at g1 a1
      rw [b1, a1]
      obtain ⟨g2, a2, b2, _⟩ := Q_give g1 (s := e) (y_setE he (by rw [a1]; exact h8)) (by omega) (j := 11) (by omega) (by omega) (x := (c.1 (13 + e) 3).toInt64) (y := (r.1 8 e).toInt64) (by rw [E3])
      rw [show (11 : Int32) = nI 11 from rfl]
      generalize m_X7_set c1 e (nI 11) (c.1 (13 + e) 3).toInt64 = c2 at g2 b2
      generalize m_X10_give r1 (nI 11) (r.1 8 e).toInt64 = r2 at g2 a2
      rw [b2, b1, a2, a1]
      have sh : (c.1 (13 + e) 5).toInt64 = (if r.1 11 e = 0 then 0 else (r.1 10 e).toInt64) := by
        rw [E5]
        rcases (h.1.2.2.2.2.1.2 e he hl).2 with ⟨z1, z2⟩ | g
        · rw [if_pos z1, z2]; rfl
        · obtain ⟨p, m, p1, p2, p3, p4, p5⟩ := g
          have hp0 : 0 < 2 ^ p := Nat.two_pow_pos p
          rw [if_neg (by rw [p3]; exact nI_ne0 hp0 (by omega))]
      have a2' : r2.1 = r.1 := a2.trans a1
      obtain ⟨g3, a3, b3, _⟩ := Q_give g2 (s := e) (y_setE he (by rw [a2']; exact h8)) (by omega) (j := 12) (by omega) (by omega) sh
      rw [show (12 : Int32) = nI 12 from rfl, show (13 : Int32) = nI 13 from rfl]
      by_cases z : r.1 11 e = 0
      · rw [if_pos z]
        rw [if_pos z] at g3 a3
        generalize m_X7_set c2 e (nI 12) (c.1 (13 + e) 5).toInt64 = c3 at g3 b3
        generalize m_X10_give r2 (nI 12) 0 = r3 at g3 a3
        rw [b3, b2, b1, a3, a2, a1]
        obtain ⟨g4, a4, b4, _⟩ := Q_give g3 (s := e) (y_setE he (by rw [a3, a2']; exact h8)) (by omega) (j := 13) (by omega) (by omega) (x := (c.1 (13 + e) 6).toInt64) (y := (r.1 11 e).toInt64) (by rw [E6])
        exact ⟨g4, by rw [a4, a3, a2, a1]⟩
      · rw [if_neg z]
        rw [if_neg z] at g3 a3
        generalize m_X7_set c2 e (nI 12) (c.1 (13 + e) 5).toInt64 = c3 at g3 b3
        generalize m_X10_give r2 (nI 12) (r.1 10 e).toInt64 = r3 at g3 a3
        rw [b3, b2, b1, a3, a2, a1]
        obtain ⟨g4, a4, b4, _⟩ := Q_give g3 (s := e) (y_setE he (by rw [a3, a2']; exact h8)) (by omega) (j := 13) (by omega) (by omega) (x := (c.1 (13 + e) 6).toInt64) (y := (r.1 11 e).toInt64) (by rw [E6])
        exact ⟨g4, by rw [a4, a3, a2, a1]⟩
    · rw [if_neg q3, if_neg q3]
      obtain ⟨g1, g2, _⟩ := Q_give h hset (by omega) (j := 10) (by omega) (by omega) (x := -1) (y := -1) rfl
      exact ⟨g1, g2⟩
