/-! reset -/
theorem y_pI0 {r : eb_St} {q e : Nat} {v : Int32} (h : r.1 q e = v) : eb_pI r q e v = r := Prod.ext (funext fun a => funext fun b => by
  show (if a = q ∧ b = e then v else r.1 a b) = r.1 a b
  by_cases z : a = q ∧ b = e
  · rw [if_pos z, z.1, z.2, h]
  · rw [if_neg z]) rfl
def yfa (c : eb_St) : eb_St := eb_pI (eb_pI (eb_pI (eb_pI (eb_pI (eb_pI c 10 6 (-1)) 10 9 0) 10 10 0) 10 11 0) 10 12 0) 10 13 0
theorem y_forget {n t : Nat} {u : Int32} {v w : Int64} : ∀ (d e : Nat) (c r : eb_St), e + d = 6 → Qm n t u v c r → (∀ k, k < e → r.1 6 k = 0) → ∃ c' r', m_X5_forgetAll_2 (d + 1) c (nI e) = yfa c' ∧ m_X10_reset_2 (d + 1) r w (nI e) = m_X10_reset_36 225 r' w 0 ∧ Qm n t u v c' r' ∧ ∀ k, k < 6 → r'.1 6 k = 0 := by
  intro d
  induction d with
  | zero =>
    intro e c r h hQ hz
    rw [m_X5_forgetAll_2, if_pos (show (6 : Int32) ≤ nI e from nI_le (a := 6) (by omega) (by omega)), m_X10_reset_2, if_pos (show (6 : Int32) ≤ nI e from nI_le (a := 6) (by omega) (by omega))]
    exact ⟨c, r, rfl, rfl, hQ, fun k hk => hz k (by omega)⟩
  | succ d ih =>
    intro e c r h hQ hz
    rw [m_X5_forgetAll_2, if_neg (show ¬ (6 : Int32) ≤ nI e from nI_ge (b := 6) (by omega) (by omega)), m_X10_reset_2, if_neg (show ¬ (6 : Int32) ≤ nI e from nI_ge (b := 6) (by omega) (by omega))]
    unfold m_X10_isLive
    rw [nI_clamp (by omega), nI_1]
    dsimp only
    have e1 := (hQ.2.2.1 e (by omega)).1
    by_cases hl : r.1 6 e = 0
    · rw [if_pos hl, if_pos (show eb_b false = 0 by decide), y_pI0 hl]
      have er : m_X5_remove c e = c := by unfold m_X5_remove; rw [if_pos (e1.trans hl)]
      rw [er]
      refine ih (e + 1) c r (by omega) hQ (fun k hk => ?_)
      by_cases q : k = e
      · rw [q]; exact hl
      · exact hz k (by omega)
    · rw [if_neg hl, if_neg (show ¬ eb_b true = 0 by decide)]
      obtain ⟨m1, hF⟩ := Qm_remove hQ (e := e) (by omega) hl
      refine ih (e + 1) _ _ (by omega) m1 (fun k hk => ?_)
      by_cases q : k = e
      · rw [q, eb_rdI]
      · rw [pI_p q, hF.2 6 k (by omega)]; exact hz k (by omega)
def yr3 (r : eb_St) (w : Int64) : eb_St := eb_pJ (eb_pJ (eb_pJ (eb_pJ (eb_pJ (eb_pI (eb_pI (eb_pI (eb_pI (eb_pI (eb_pI (eb_pI (eb_pJ (eb_pI (eb_pI (eb_pI (eb_pJ r 3 6 w) 0 4 1) 0 5 0) 0 6 (-1)) 0 7 0) 0 8 (-1)) 0 9 0) 0 10 0) 0 11 0) 0 12 0) 0 13 0) 0 14 0) 0 15 0) 0 16 0) 0 17 0) 0 18 0) 0 19 0
theorem y_r36 {w : Int64} : ∀ (d k : Nat) (r : eb_St), k + d = 224 → m_X10_reset_36 (d + 1) r w (nI k) = m_X10_reset_146 17 (yr3 (fJ r 2 k 224 0) w) 0 := by
  intro d
  induction d with
  | zero =>
    intro k r h
    rw [m_X10_reset_36, if_pos (show (224 : Int32) ≤ nI k from nI_le (a := 224) (by omega) (by omega)), ← fJ_0 r 2 k 224 0 (by omega), show (6 : Int32).toNatClampNeg = 6 by decide]
    unfold yr3
    rw [fJ_0 r 2 k 224 0 (by omega), ← fJ_0 r 2 k 224 0 (by omega)]
  | succ d ih =>
    intro k r h
    rw [m_X10_reset_36, if_neg (show ¬ (224 : Int32) ≤ nI k from nI_ge (b := 224) (by omega) (by omega)), nI_clamp (by omega), nI_1]
    dsimp only
    rw [ih (k + 1) _ (by omega), fJ_s _ _ _ _ _ (by omega)]
theorem y_fIpJ (σ : eb_St) (k j q s e : Nat) (v : Int64) (w : Int32) : fI (eb_pJ σ k j v) q s e w = eb_pJ (fI σ q s e w) k j v := rfl
theorem y_r146 : ∀ (d k : Nat) (r : eb_St), k + d = 16 → m_X10_reset_146 (d + 1) r (nI k) = eb_pI (fJ (fI r 4 k 16 0) 5 k 16 0) 0 35 0 := by
  intro d
  induction d with
  | zero =>
    intro k r h
    rw [m_X10_reset_146, if_pos (show (16 : Int32) ≤ nI k from nI_le (a := 16) (by omega) (by omega)), ← fI_0 r 4 k 16 0 (by omega), ← fJ_0 r 5 k 16 0 (by omega)]
  | succ d ih =>
    intro k r h
    rw [m_X10_reset_146, if_neg (show ¬ (16 : Int32) ≤ nI k from nI_ge (b := 16) (by omega) (by omega)), nI_clamp (by omega), nI_1]
    dsimp only
    rw [ih (k + 1) _ (by omega), y_fIpJ, fJ_s _ _ _ _ _ (by omega), fI_s _ _ _ _ _ (by omega)]
theorem y_zfit : yfit 0 0 (yrl 0 0 0) (yrh 0 0 0) := by
  have k0 : ykd 0 = 0 := by decide
  unfold yrl yrh
  rw [k0, if_neg (by decide), if_neg (by decide), if_neg (by decide), if_neg (by decide), if_neg (by decide), if_neg (by decide)]
  exact Or.inl ⟨Or.inl (by decide), by decide, by decide⟩
theorem S_reset {n : Nat} {c r : eb_St} (h : Q n 6 0 0 c r) (w : Int64) : Q n 6 0 0 (m_X9_reset c w) (m_X10_reset r w) := by
  obtain ⟨c', r', ec, er, hQ, hz⟩ := y_forget (w := w) 6 0 c r (by omega) (Qm_of h) (fun k hk => absurd hk (by omega))
  have er2 : m_X10_reset r w = eb_pI (fJ (fI (yr3 (fJ r' 2 0 224 0) w) 4 0 16 0) 5 0 16 0) 0 35 0 := by
    have e1 : m_X10_reset r w = m_X10_reset_36 225 r' w 0 := er
    have e2 : m_X10_reset_36 225 r' w 0 = m_X10_reset_146 17 (yr3 (fJ r' 2 0 224 0) w) 0 := y_r36 224 0 r' (by omega)
    have e3 : m_X10_reset_146 17 (yr3 (fJ r' 2 0 224 0) w) 0 = eb_pI (fJ (fI (yr3 (fJ r' 2 0 224 0) w) 4 0 16 0) 5 0 16 0) 0 35 0 := y_r146 16 0 _ (by omega)
    rw [e1, e2, e3]
  have ec2 : m_X9_reset c w = eb_pJ (eb_pI (eb_pI (eb_pI (eb_pJ (fJ (m_X1_clear (fI (fI (fJ (fI (yfa c') 4 0 16 0) 5 0 16 0) 6 0 16 0) 7 0 16 0)) 32 0 32 0) 25 1 w) 9 3 3) 0 6 0) 0 7 (-1)) 0 8 0 := by
    have e1 : m_X5_forgetAll c = yfa c' := ec
    unfold m_X9_reset m_X6_clear m_X7_clear
    dsimp only
    rw [e1, y_fillI0 (by omega), y_fillJ0 (by omega), y_fillI0 (by omega), y_fillI0 (by omega), y_fillJ0 (by omega)]
  rw [er2, ec2]
  obtain ⟨m, x, E, s, g, p, l⟩ := hQ
  obtain ⟨s1, s2, s3, s4, s5, s6, s7, s8, s9, s10, s11, s12, s13, s14, s15, s16, s17, s18, s19, s20, s21, s22⟩ := s
  have r6 : ∀ k, (eb_pI (fJ (fI (yr3 (fJ r' 2 0 224 0) w) 4 0 16 0) 5 0 16 0) 0 35 0).1 6 k = r'.1 6 k := fun k => rfl
  have r8 : (eb_pI (fJ (fI (yr3 (fJ r' 2 0 224 0) w) 4 0 16 0) 5 0 16 0) 0 35 0).1 0 8 = -1 := rfl
  have r4 : ∀ i, i < 16 → (eb_pI (fJ (fI (yr3 (fJ r' 2 0 224 0) w) 4 0 16 0) 5 0 16 0) 0 35 0).1 4 i = 0 := fun i hi => if_pos ⟨rfl, by omega, hi⟩
  have r5 : ∀ i, i < 16 → (eb_pI (fJ (fI (yr3 (fJ r' 2 0 224 0) w) 4 0 16 0) 5 0 16 0) 0 35 0).2 5 i = 0 := fun i hi => if_pos ⟨rfl, by omega, hi⟩
  have r2 : ∀ i, i < 224 → (eb_pI (fJ (fI (yr3 (fJ r' 2 0 224 0) w) 4 0 16 0) 5 0 16 0) 0 35 0).2 2 i = 0 := fun i hi => by
    show (if 2 = 2 ∧ 0 ≤ i ∧ i < 224 then (0 : Int64) else r'.2 2 i) = 0
    exact if_pos ⟨rfl, by omega, hi⟩
  generalize hR : eb_pI (fJ (fI (yr3 (fJ r' 2 0 224 0) w) 4 0 16 0) 5 0 16 0) 0 35 0 = R at r6 r8 r4 r5 r2 ⊢
  generalize hC : eb_pJ (eb_pI (eb_pI (eb_pI (eb_pJ (fJ (m_X1_clear (fI (fI (fJ (fI (yfa c') 4 0 16 0) 5 0 16 0) 6 0 16 0) 7 0 16 0)) 32 0 32 0) 25 1 w) 9 3 3) 0 6 0) 0 7 (-1)) 0 8 0 = C
  have c4 : ∀ i, i < 16 → C.1 4 i = 0 := fun i hi => by rw [← hC]; simp [eb_pI, eb_pJ, fI, fJ, m_X1_clear, hi]
  have c6 : ∀ i, i < 16 → C.1 6 i = 0 := fun i hi => by rw [← hC]; simp [eb_pI, eb_pJ, fI, fJ, m_X1_clear, hi]
  have c7 : ∀ i, i < 16 → C.1 7 i = 0 := fun i hi => by rw [← hC]; exact if_pos ⟨rfl, by omega, hi⟩
  have c5 : ∀ i, i < 16 → C.2 5 i = 0 := fun i hi => by rw [← hC]; simp [eb_pI, eb_pJ, fI, fJ, m_X1_clear, hi]
  have c32 : ∀ i, i < 32 → C.2 32 i = 0 := fun i hi => by rw [← hC]; exact if_pos ⟨rfl, by omega, hi⟩
  have cE1 : ∀ q b, 13 ≤ q → q < 19 → C.1 q b = c'.1 q b := fun q b h1 h2 => by
    rw [← hC]
    have a0 : ¬ q = 0 := by omega
    have a4 : ¬ q = 4 := by omega
    have a6 : ¬ q = 6 := by omega
    have a7 : ¬ q = 7 := by omega
    have a8 : ¬ q = 8 := by omega
    have a9 : ¬ q = 9 := by omega
    have a10 : ¬ q = 10 := by omega
    simp [eb_pI, eb_pJ, fI, fJ, yfa, m_X1_clear, a0, a4, a6, a7, a8, a9, a10]
  have cE2 : ∀ q b, 13 ≤ q → q < 19 → C.2 q b = c'.2 q b := fun q b h1 h2 => by
    rw [← hC]
    have a0 : ¬ q = 0 := by omega
    have a5 : ¬ q = 5 := by omega
    have a8 : ¬ q = 8 := by omega
    have a25 : ¬ q = 25 := by omega
    have a32 : ¬ q = 32 := by omega
    simp [eb_pI, eb_pJ, fI, fJ, yfa, m_X1_clear, a0, a5, a8, a25, a32]
  have rE1 : ∀ q b, 6 ≤ q → q < 14 → R.1 q b = r'.1 q b := fun q b h1 h2 => by
    rw [← hR]
    have a0 : ¬ q = 0 := by omega
    have a4 : ¬ q = 4 := by omega
    simp [eb_pI, eb_pJ, fI, fJ, yr3, a0, a4]
  refine ⟨⟨qM_fr m (fun b => by rw [← hC]; rfl) (fun b => by rw [← hR]; rfl), fun s' hs' hl => ?_, qE_fr E cE1 cE2 rE1 (fun b => by rw [← hR]; rfl) (by rw [← hR]; rfl), ?_, ⟨Or.inl r8, fun e he hl => absurd ((r6 e).trans (hz e he)) hl⟩, fun i h0 hi => ⟨(c4 i hi).trans (r4 i hi).symm, (c5 i hi).trans (r5 i hi).symm⟩, fun i hi => ?_⟩, fun i hi => ?_, fun z => absurd (by rw [← hR]; rfl) z⟩
  · rcases hl with z | z
    · subst z
      refine ⟨fun j hj => (c32 j hj).trans (r2 _ (by omega)).symm, ?_⟩
      rw [← hC, ← hR]
      show w = w + 0
      rw [Int64.add_zero]
    · rcases Nat.lt_or_ge s' 6 with q | q
      · exact absurd ((r6 s').trans (hz s' q)) z
      · have : s' = 6 := by omega
        subst this
        refine ⟨fun j hj => (c32 j hj).trans (r2 _ (by omega)).symm, ?_⟩
        rw [← hC, ← hR]
        show w = w + 0
        rw [Int64.add_zero]
  · rw [← hC, ← hR]
    exact ⟨rfl, rfl, rfl, rfl, rfl, rfl, rfl, rfl, rfl, rfl, rfl, rfl, Or.inl rfl, rfl, rfl, rfl, rfl, s18, s19, s20, s21, s22⟩
  · have ep : ypc C i = 0 := by
      unfold ypc
      by_cases q : i = 0
      · rw [if_pos q]
      · rw [if_neg q, c5 _ (by omega)]
    rw [c4 i hi, c5 i hi, c6 i hi, c7 i hi, ep]
    exact ⟨yad_0, y_zfit⟩
  · rw [c4 i (by omega), c5 i (by omega)]
    have h6 : i < 6 ∨ i = 6 ∨ i = 7 := by omega
    rcases h6 with q | rfl | rfl
    · rw [y_bt q, y_at q, if_pos ((r6 i).trans (hz i q)), if_pos ((r6 i).trans (hz i q))]
      exact ⟨rfl, rfl⟩
    · have b6 : m_X10_byteOf R (nI 6) = 0 := by rw [y_bt6, r8]; exact if_pos (by decide)
      rw [y_at6, b6]
      exact ⟨rfl, rfl⟩
    · rw [y_bt7, y_at7, r8]
      exact ⟨rfl, rfl⟩
/-- the relation of the law -/
def lwRel (k : Nat) (c r : eb_St) : Prop := rJ r ∧ Q (5000 * k) 6 0 0 c r
