/-! create -/
theorem y_ld1 {z r : eb_St} (h : qM z r) {a : Nat} (ha : a + 1 ≤ 65536) : m_X4_load z (nI a) 1 = ((vp_nar .byte (r.1 1 a)) &&& 255).toInt64 := by
  have e : m_X4_load z (nI a) 1 = m_X10_take r (nI a) (nI 1) := qM_load h (z := 1) ha (Or.inl rfl) (by omega)
  rw [e]
  apply yl_ext
  intro j hj
  rw [y_take (z := 1) ha (Or.inl rfl) hj, yl_b255 _ hj]
  by_cases h8 : j < 8
  · rw [decide_eq_true (show j < 8 * 1 by omega), yb_nb _ h8]
    unfold rB
    rw [show (8 * a + j) / 8 = a by omega, show (8 * a + j) % 8 = j by omega]
  · rw [decide_eq_false (show ¬ j < 8 * 1 by omega)]; simp
theorem y_cp0 (c : eb_St) (x y : Int32) : m_X4_copy c x y (nI 0) = c := by
  unfold m_X4_copy
  by_cases q : x ≤ y
  · rw [if_pos q]
    dsimp only
    rw [y_fuelm (by omega), m_X4_copy_46, if_pos (by decide)]
  · rw [if_neg q, y_fuel0 (by omega), m_X4_copy_8, if_pos (by decide)]
theorem y_mk0 (r : eb_St) (k a n x : Int32) : m_X10_makes r k a n x (nI 0) = m_X10_makes r k a n (nI 0) (nI 0) := by
  unfold m_X10_makes
  rw [y_fuel0 (by omega), m_X10_makes_3, m_X10_makes_3, if_pos (by decide), if_pos (by decide)]
theorem Q_made {n : Nat} {u : Int32} {v : Int64} {z r : eb_St} (h : Q n 6 u v z r) {k : Nat} (hk : k < 6) {p g m f ss : Nat} {Sh : Int32} (p5 : 5 ≤ p) (p14 : p ≤ 14) (hA : z.2 11 0 = lN (2 ^ p * g)) (hN : z.2 11 1 = lN (2 ^ p)) (hg : 2 ^ p * g + 2 ^ p ≤ 65536) (hM : z.2 11 3 = lN m) (hm : m ≤ 2 ^ p) (hI : m = 0 ∨ ∃ i, z.2 11 2 = lN i ∧ i + m ≤ 65536) (hF : z.2 11 4 = lN f) (hf : f < 2 ^ p) (hS : z.2 11 6 = lN ss) (hss : ss ≤ 4096) (hSh : Sh = if nI ss = 0 then 0 else (z.2 11 5).toInt32) (hSg : (nI ss = 0 ∧ Sh = 0) ∨ ygeo Sh (nI ss) 3 12) :
    Qm n 6 u v (eb_pI (m_X4_zero (m_X4_copy (m_X2_begin z k (m_X5_measureOfRequest z) (m_X5_keyOf z (m_X5_measureOfRequest z))) (z.2 11 2).toInt32 (nI (2 ^ p * g)) (nI m)) (nI (2 ^ p * g) + nI m) (nI (2 ^ p * g) + nI (2 ^ p))) 10 10 (z.1 10 10 + 1))
      (m_X10_measured (eb_pI (eb_pI (eb_pI (m_X10_makes r (nI k) (nI (2 ^ p * g)) (nI (2 ^ p)) (z.2 11 2).toInt32 (nI m)) 9 k (nI f)) 10 k Sh) 11 k (nI ss)) (nI k) (nI m)) ∧
    (m_X10_measured (eb_pI (eb_pI (eb_pI (m_X10_makes r (nI k) (nI (2 ^ p * g)) (nI (2 ^ p)) (z.2 11 2).toInt32 (nI m)) 9 k (nI f)) 10 k Sh) 11 k (nI ss)) (nI k) (nI m)).1 0 8 = r.1 0 8 ∧
    (m_X10_measured (eb_pI (eb_pI (eb_pI (m_X10_makes r (nI k) (nI (2 ^ p * g)) (nI (2 ^ p)) (z.2 11 2).toInt32 (nI m)) 9 k (nI f)) 10 k Sh) 11 k (nI ss)) (nI k) (nI m)).1 0 35 = 0 := by
  have hp8 : 2 ^ p ≤ 2 ^ 14 := Nat.pow_le_pow_right (by decide) p14
  have hp5 : 2 ^ 5 ≤ 2 ^ p := Nat.pow_le_pow_right (by decide) p5
  have hp8' : (2 ^ p) % 8 = 0 ∧ (2 ^ p * g) % 8 = 0 := by
    obtain ⟨q, rfl⟩ : ∃ q, p = q + 3 := ⟨p - 3, by omega⟩
    have e3 : 2 ^ (q + 3) = 8 * 2 ^ q := by rw [Nat.pow_add]; omega
    have e4 : 2 ^ (q + 3) * g = 8 * (2 ^ q * g) := by rw [e3, Nat.mul_assoc]
    omega
  have hgeo : ygeo (nI (2 ^ p * g)) (nI (2 ^ p)) 5 14 := ⟨p, g, p5, p14, rfl, rfl, hg⟩
  have hmem := h.1.1
  obtain ⟨im, him, hI2⟩ : ∃ im, im + m ≤ 65536 ∧ (m = 0 ∨ (z.2 11 2).toInt32 = nI im) := by
    rcases hI with z0 | ⟨i, e, hi⟩
    · exact ⟨0, by omega, Or.inl z0⟩
    · exact ⟨i, hi, Or.inr (by rw [e, lN_i])⟩
  -- the measure
  have hme : m_X5_measureOfRequest z = m_X5_mixedNumber (m_X5_mixedNumber (m_X5_mixedNumber (yw (fun i => m_X4_load z ((z.2 11 2).toInt32 + nI i) 1) m 0 (-3750763034362895579)) (lN (2 ^ p))) (lN f)) (lN ss) := by
    unfold m_X5_measureOfRequest
    dsimp only
    rw [hM, lN_i, y_fuel0 (by omega), show (0 : Int32) = nI 0 from rfl, y_mor (by omega) m 0 _ (by omega), hN, hF, hS]
  have hmk : m_X10_makes r (nI k) (nI (2 ^ p * g)) (nI (2 ^ p)) (z.2 11 2).toInt32 (nI m) = ymk r k (2 ^ p * g) (2 ^ p) im m := by
    rcases hI2 with z0 | e
    · subst z0
      rw [y_mk0, y_makes hk (by omega) (by omega) (im := 0) (by omega)]
      unfold ymk
      congr 6
      have : ∀ j : Nat, yk1 r j 0 = r := fun j => Prod.ext (funext fun a => funext fun b => if_neg (by omega)) rfl
      rw [this, this]
    · rw [e, y_makes hk (by omega) (by omega) him]
  rw [hmk]
  generalize hR0 : eb_pI (eb_pI (eb_pI (ymk r k (2 ^ p * g) (2 ^ p) im m) 9 k (nI f)) 10 k Sh) 11 k (nI ss) = R0
  have r8 : R0.1 8 k = nI (2 ^ p) := by rw [← hR0]; simp [ymk, eb_pI, fJ]
  have r7 : R0.1 7 k = nI (2 ^ p * g) := by rw [← hR0]; simp [ymk, eb_pI, fJ]
  have r9 : R0.1 9 k = nI f := by rw [← hR0]; simp [ymk, eb_pI, fJ]
  have r11 : R0.1 11 k = nI ss := by rw [← hR0]; simp [ymk, eb_pI, fJ]
  have r17 : ∀ i, i < m → R0.1 17 i = vp_nar .byte (r.1 1 (im + i)) := fun i hi => by rw [← hR0]; simp [ymk, eb_pI, fJ, yk2, yk1, hi]
  have eyw : yw (fun i => ((R0.1 17 i) &&& 255).toInt64) m 0 (-3750763034362895579) = yw (fun i => m_X4_load z ((z.2 11 2).toInt32 + nI i) 1) m 0 (-3750763034362895579) := by
    refine yw_c m 0 _ (fun i _ hi => ?_)
    show ((R0.1 17 i) &&& 255).toInt64 = m_X4_load z ((z.2 11 2).toInt32 + nI i) 1
    rcases hI2 with z0 | e
    · omega
    · rw [r17 i (by omega), e, nI_add, y_ld1 hmem (by omega)]
  have hmd : m_X10_measured R0 (nI k) (nI m) = eb_pJ (eb_pJ R0 14 k (m_X5_measureOfRequest z)) 3 k (lN (2 ^ p * g + f)) := by
    unfold m_X10_measured
    rw [y_fuel0 (by omega), show (0 : Int32) = nI 0 from rfl, y_m7 (by omega) m 0 _ (by omega), show (0 : Int32) = nI 0 from rfl, y_m41 hk 24 0 _ (by omega), r7, r9, nI_l (by omega), nI_l (by omega), lN_add, hme, y_mix3 (r := R0) (e := k) (by omega) (by omega) (by omega) r8 r9 r11, eyw]
  rw [hmd]
  -- the class's state
  have hSh2 : Sh = if (z.2 11 6).toInt32 = 0 then 0 else (z.2 11 5).toInt32 := by rw [hS, lN_i]; exact hSh
  have hB := y_beg z hk (m_X5_measureOfRequest z) (m_X5_keyOf z (m_X5_measureOfRequest z)) hSh2
  generalize m_X5_measureOfRequest z = me at hB ⊢
  generalize hky : m_X5_keyOf z me = ky at hB ⊢
  generalize m_X2_begin z k me ky = Bg at hB ⊢
  have hcpF : cF Bg (m_X4_copy Bg (z.2 11 2).toInt32 (nI (2 ^ p * g)) (nI m)) ∧ ∀ q, cB (m_X4_copy Bg (z.2 11 2).toInt32 (nI (2 ^ p * g)) (nI m)) q = if 8 * (2 ^ p * g) ≤ q ∧ q < 8 * (2 ^ p * g + m) then cB Bg (8 * im + (q - 8 * (2 ^ p * g))) else cB Bg q := by
    rcases hI2 with z0 | e
    · subst z0
      rw [y_cp0]
      exact ⟨cF_0 _, fun q => (if_neg (by omega)).symm⟩
    · rw [e]
      exact y_copy Bg him (by omega)
  generalize m_X4_copy Bg (z.2 11 2).toInt32 (nI (2 ^ p * g)) (nI m) = C1 at hcpF ⊢
  rw [nI_add, nI_add]
  have hzF := y_zero (a := 2 ^ p * g + m) (b := 2 ^ p * g + 2 ^ p) C1 (by omega) hg (by omega)
  generalize m_X4_zero C1 (nI (2 ^ p * g + m)) (nI (2 ^ p * g + 2 ^ p)) = C2 at hzF ⊢
  have c21 : C2.1 = Bg.1 := hzF.1.1.trans hcpF.1.1
  have c22 : ∀ q b, ¬ q = 2 → C2.2 q b = Bg.2 q b := fun q b hq => (hzF.1.2 q b hq).trans (hcpF.1.2 q b hq)
  have bgB : ∀ q, cB Bg q = cB z q := fun q => by
    unfold cB
    have : Bg.2 2 (q / 64) = z.2 2 (q / 64) := by
      rw [hB, pJ_o (by omega)]
      show (if 2 = 26 + k ∧ _ then _ else _) = _
      rw [if_neg (by omega), pJ_o (by omega), pJ_o (by omega)]
      rfl
    rw [this]
  refine ⟨Qm_new (Qm_of h) hk (B := nI (2 ^ p * g)) (Sz := nI (2 ^ p)) (En := nI f) (Sh := Sh) (Ss := nI ss) (me := me) (ky := ky) (pc := lN (2 ^ p * g + f)) ?_ ?_ ?_ ?_ ?_ ?_ ?_ ?_ ?_ ?_ ?_ ?_ ⟨hgeo, hSg⟩, ?_, ?_⟩
  · intro q hq
    have e1 : cB (eb_pI C2 10 10 (z.1 10 10 + 1)) q = cB C2 q := rfl
    have e2 : rB (eb_pJ (eb_pJ R0 14 k me) 3 k (lN (2 ^ p * g + f))) q = rB (ymk r k (2 ^ p * g) (2 ^ p) im m) q := by
      rw [← hR0]
      unfold rB
      congr 1
    rw [e1, e2, hzF.2 q, hcpF.2 q, y_mk_B hm q, bgB, bgB]
    by_cases h1 : 8 * (2 ^ p * g) ≤ q ∧ q < 8 * (2 ^ p * g + 2 ^ p)
    · rw [if_pos h1]
      by_cases h2 : q < 8 * (2 ^ p * g + m)
      · rw [if_pos h2, if_neg (by omega), if_pos (by omega)]
        exact hmem _ (by omega)
      · rw [if_neg h2, if_pos (by omega)]
    · rw [if_neg h1, if_neg (by omega), if_neg (by omega)]
      exact hmem q hq
  · have key : ∀ b, (eb_pI C2 10 10 (z.1 10 10 + 1)).1 (13 + k) b = Bg.1 (13 + k) b := fun b => by rw [pI_o (by omega), c21]
    rw [key, key, key, key, key, key, key, key, hB, hA, hN, hF, hS, lN_i, lN_i, lN_i, lN_i]
    simp [eb_pI, eb_pJ, fJ]
  · intro q b h1 h2
    show (if q = 10 ∧ b = 10 then _ else C2.1 q b) = _
    rw [if_neg h2, c21, hB]
    simp [eb_pI, eb_pJ, fJ, h1]
  · simp [eb_pI]
  · have key : ∀ q b, ¬ q = 2 → (eb_pI C2 10 10 (z.1 10 10 + 1)).2 q b = Bg.2 q b := fun q b hq => c22 q b hq
    rw [key _ _ (by omega), key _ _ (by omega), key _ _ (by omega)]
    refine ⟨?_, ?_, ?_, fun j hj => ?_⟩
    · rw [hB, pJ_o (by omega)]
      show (if 13 + k = 26 + k ∧ _ then _ else _) = _
      rw [if_neg (by omega), pJ_p (by omega)]
      simp [eb_pJ]
    · rw [hB, pJ_o (by omega)]
      show (if 13 + k = 26 + k ∧ _ then _ else _) = _
      rw [if_neg (by omega)]
      simp [eb_pJ]
    · rw [hB, hA, hF, lN_i, lN_i, nI_add, nI_l (by omega)]
      simp [eb_pJ]
    · rw [key _ _ (by omega), hB, pJ_o (by omega)]
      exact if_pos ⟨rfl, by omega, hj⟩
  · intro q b h2 h11 h13 h19 h26
    show C2.2 q b = z.2 q b
    rw [c22 q b h2, hB, pJ_o h19]
    show (if q = 26 + k ∧ _ then _ else _) = _
    rw [if_neg (fun t => h26 t.1), pJ_o h13, pJ_o h13]
    rfl
  · have key : ∀ q b, (eb_pJ (eb_pJ R0 14 k me) 3 k (lN (2 ^ p * g + f))).1 q b = R0.1 q b := fun q b => rfl
    rw [key, key, key, key, key, key, key, key, r7, r8, r9, r11, ← hR0]
    simp [ymk, eb_pI, fJ]
  · intro q b h1 h17 h10 h35 h6
    show R0.1 q b = r.1 q b
    rw [← hR0]
    have n7 : ¬ (q = 7 ∧ b = k) := by omega
    have n8 : ¬ (q = 8 ∧ b = k) := by omega
    have n6 : ¬ (q = 6 ∧ b = k) := by omega
    have n9 : ¬ (q = 9 ∧ b = k) := by omega
    have n10 : ¬ (q = 10 ∧ b = k) := by omega
    have n11 : ¬ (q = 11 ∧ b = k) := by omega
    have n12 : ¬ (q = 12 ∧ b = k) := by omega
    have n13 : ¬ (q = 13 ∧ b = k) := by omega
    show (if q = 11 ∧ b = k then _ else if q = 10 ∧ b = k then _ else if q = 9 ∧ b = k then _ else if q = 0 ∧ b = 35 then _ else if q = 0 ∧ b = 10 then _ else if q = 13 ∧ b = k then _ else if q = 12 ∧ b = k then _ else if q = 6 ∧ b = k then _ else if q = 8 ∧ b = k then _ else if q = 7 ∧ b = k then _ else if q = 1 ∧ _ then _ else if q = 17 ∧ _ then _ else r.1 q b) = r.1 q b
    rw [if_neg n11, if_neg n10, if_neg n9, if_neg h35, if_neg h10, if_neg n13, if_neg n12, if_neg n6, if_neg n8, if_neg n7, if_neg (fun t => h1 t.1), if_neg (fun t => h17 t.1)]
  · show R0.1 0 10 = _
    rw [← hR0]
    simp [ymk, eb_pI, fJ]
  · refine ⟨by rw [pJ_o (by omega)]; simp [eb_pJ], by simp [eb_pJ], fun j hj => ?_⟩
    rw [pJ_o (by omega), pJ_o (by omega), ← hR0]
    show (if 2 = 2 ∧ 32 * k ≤ 32 * k + j ∧ 32 * k + j < 32 * k + 32 then (0 : Int64) else _) = 0
    exact if_pos ⟨rfl, by omega, by omega⟩
  · intro q b h14 h3 h2
    show (if q = 3 ∧ b = k then _ else if q = 14 ∧ b = k then _ else R0.2 q b) = _
    rw [if_neg h3, if_neg h14, ← hR0]
    show (if q = 2 ∧ 32 * k ≤ b ∧ b < 32 * k + 32 then (0 : Int64) else r.2 q b) = r.2 q b
    rw [if_neg h2]
  · rw [← hky, y_keyC, h.1.2.2.2.1.2.2.2.2.2.2.2.2.2.2.2.2.2.2.2.2.2.1]
  · show R0.1 0 8 = _
    rw [← hR0]
    simp [ymk, eb_pI, fJ, yk2, yk1]
  · show R0.1 0 35 = _
    rw [← hR0]
    simp [ymk, eb_pI, fJ]
