/-! CSR writes, the system's instructions, the step's execution -/
theorem pJ_o {σ : eb_St} {k j q b : Nat} {v : Int64} (h : ¬ q = k) : (eb_pJ σ k j v).2 q b = σ.2 q b := if_neg (fun z => h z.1)
theorem pI_o {σ : eb_St} {k j q b : Nat} {v : Int32} (h : ¬ q = k) : (eb_pI σ k j v).1 q b = σ.1 q b := if_neg (fun z => h z.1)
theorem pJ_p {σ : eb_St} {k j q b : Nat} {v : Int64} (h : ¬ b = j) : (eb_pJ σ k j v).2 q b = σ.2 q b := if_neg (fun z => h z.2)
theorem pI_p {σ : eb_St} {k j q b : Nat} {v : Int32} (h : ¬ b = j) : (eb_pI σ k j v).1 q b = σ.1 q b := if_neg (fun z => h z.2)
theorem Q_wJ {n t : Nat} {u : Int32} {v : Int64} {c r : eb_St} (h : Q n t u v c r) (j j' : Nat) (x y : Int64) (hj : ¬ 0 = j') (hs : qS n t u (eb_pJ c 8 j x) (eb_pJ (eb_pI r 0 35 0) 0 j' y)) : Q n t u v (eb_pJ c 8 j x) (eb_pJ (eb_pI r 0 35 0) 0 j' y) ∧ yWf c (eb_pJ c 8 j x) r (eb_pJ (eb_pI r 0 35 0) 0 j' y) := by
  refine ⟨Q_sc h (fun q b _ _ _ _ => rfl) (fun q b _ _ h8 _ _ _ => pJ_o h8) (fun q b h0 => pI_o h0) (fun q b h0 _ _ => pJ_o h0) rfl (pJ_p hj) (Or.inr rfl) hs (qX_fr h.1.2.1 (fun q b hq => pJ_o (by omega)) (fun b => rfl) (fun q b hq => pJ_o (by omega))) h.1.2.2.2.2.1.1, fun q b hq => pJ_o (by omega), fun b hb => pI_p (by omega), fun b => rfl, fun b => pJ_o (by omega)⟩
theorem y_mpp (x : Int64) : ((eb_lushr x 11) &&& 3) = ((eb_lshr x 11) &&& 3) := by
  apply yl_ext
  intro i hi
  rw [yl_and, yl_and, show (11 : Int32) = nI 11 from rfl, yl_ushr 11 (by omega), yl_sshr 11 (by omega) _ hi]
  by_cases h : i < 53
  · rw [if_pos (by omega)]
  · have : yl 3 i = false := (by decide +kernel : ∀ i, i < 64 → ¬ i < 53 → yl 3 i = false) i hi h
    rw [this]
    simp
theorem y_lk (b : Int32) : (b &&& 152) = 136 ↔ ¬ (b &&& 128) = 0 ∧ ykd b = 1 := by
  have k1 := (y_kd8 b).1
  have h7 : (b &&& 128) = 0 ∨ (b &&& 128) = 128 := by
    by_cases hb : yb b 7 = true
    · refine Or.inr (yb_ext fun i hi => ?_)
      rw [show (128 : Int32) = nI (2 ^ 7) from rfl, yb_and, yb_nI _ hi, Nat.testBit_two_pow]
      by_cases q : 7 = i
      · rw [← q, hb]; simp
      · simp [q]
    · refine Or.inl (yb_ext fun i hi => ?_)
      rw [show (128 : Int32) = nI (2 ^ 7) from rfl, yb_and, yb_nI _ hi, Nat.testBit_two_pow, yb_0]
      by_cases q : 7 = i
      · rw [← q]; simp [hb]
      · simp [q]
  have e1 : (b &&& 128) = (b &&& 152) &&& 128 := by rw [Int32.and_assoc]; rfl
  have e2 : (b &&& 24) = (b &&& 152) &&& 24 := by rw [Int32.and_assoc]; rfl
  have e3 : (b &&& 152) = (b &&& 128) ||| (b &&& 24) := by
    apply yb_ext
    intro i hi
    rw [yb_or, yb_and, yb_and, yb_and]
    have : yb 152 i = (yb 128 i || yb 24 i) := (by decide +kernel : ∀ i, i < 32 → yb 152 i = (yb 128 i || yb 24 i)) i hi
    rw [this, Bool.and_or_distrib_left]
  constructor
  · intro h
    rw [h] at e1 e2
    exact ⟨by rw [e1]; decide, k1.mp (by rw [e2]; decide)⟩
  · intro ⟨h1, h2⟩
    rw [e3, k1.mpr h2, h7.resolve_left h1]
    decide
theorem Q_write {n t : Nat} {u : Int32} {v : Int64} {c r : eb_St} (h : Q n t u v c r) {k : Int32} (hk : ywr k.toInt) (x : Int64) : Q n t u v (m_X1_write c k x) (m_X10_write r k x) ∧ yWf c (m_X1_write c k x) r (m_X10_write r k x) := by
  obtain ⟨s1, s2, s3, s4, s5, s6, s7, s8, s9, s10, s11, s12, s13, s14, s15, s16, s17, s18, s19, s20, s21, s22⟩ := h.1.2.2.2.1
  have hR := h.1.2.2.2.2.1.1
  unfold m_X1_write m_X10_write
  by_cases k1 : k = 768
  · rw [if_pos k1, if_pos k1, y_mpp]
    by_cases q : ((eb_lshr x 11) &&& 3) = 3
    · rw [if_pos q, if_pos q]
      exact ⟨Q_sc h (fun q b _ h8 _ _ => pI_o h8) (fun q b _ _ _ _ _ _ => rfl) (fun q b h0 => pI_o h0) (fun q b h0 _ _ => pJ_o h0) rfl rfl (Or.inr rfl) ⟨s1, s2, s3, s4, s5, s6, s7, s8, s9, s10, s11, rfl, Or.inr rfl, s14, s15, s16, s17, s18, s19, s20, s21, s22⟩ (qX_fr h.1.2.1 (fun q b hq => rfl) (fun b => rfl) (fun q b hq => pJ_o (by omega))) hR, fun q b hq => rfl, fun b hb => pI_p (by omega), fun b => rfl, fun b => pJ_o (by omega)⟩
    · rw [if_neg q, if_neg q]
      exact ⟨Q_sc h (fun q b _ h8 _ _ => pI_o h8) (fun q b _ _ _ _ _ _ => rfl) (fun q b h0 => pI_o h0) (fun q b h0 _ _ => pJ_o h0) rfl rfl (Or.inr rfl) ⟨s1, s2, s3, s4, s5, s6, s7, s8, s9, s10, s11, rfl, Or.inl rfl, s14, s15, s16, s17, s18, s19, s20, s21, s22⟩ (qX_fr h.1.2.1 (fun q b hq => rfl) (fun b => rfl) (fun q b hq => pJ_o (by omega))) hR, fun q b hq => rfl, fun b hb => pI_p (by omega), fun b => rfl, fun b => pJ_o (by omega)⟩
  rw [if_neg k1, if_neg k1]
  by_cases k2 : k = 832
  · rw [if_pos k2, if_pos k2]
    exact Q_wJ h 2 16 x x (by omega) ⟨s1, s2, s3, s4, s5, s6, s7, s8, s9, s10, s11, s12, s13, rfl, s15, s16, s17, s18, s19, s20, s21, s22⟩
  rw [if_neg k2, if_neg k2]
  by_cases k3 : k = 833
  · rw [if_pos k3, if_pos k3]
    exact Q_wJ h 3 17 _ _ (by omega) ⟨s1, s2, s3, s4, s5, s6, s7, s8, s9, s10, s11, s12, s13, s14, rfl, s16, s17, s18, s19, s20, s21, s22⟩
  rw [if_neg k3, if_neg k3]
  by_cases k4 : k = 834
  · rw [if_pos k4, if_pos k4]
    exact Q_wJ h 4 18 _ _ (by omega) ⟨s1, s2, s3, s4, s5, s6, s7, s8, s9, s10, s11, s12, s13, s14, s15, rfl, s17, s18, s19, s20, s21, s22⟩
  rw [if_neg k4, if_neg k4]
  by_cases k5 : k = 835
  · rw [if_pos k5, if_pos k5]
    exact Q_wJ h 5 19 _ _ (by omega) ⟨s1, s2, s3, s4, s5, s6, s7, s8, s9, s10, s11, s12, s13, s14, s15, s16, rfl, s18, s19, s20, s21, s22⟩
  rw [if_neg k5, if_neg k5]
  have hfr : Q n t u v c (eb_pI r 0 35 0) ∧ yWf c c r (eb_pI r 0 35 0) :=
    ⟨Q_sc h (fun q b _ _ _ _ => rfl) (fun q b _ _ _ _ _ _ => rfl) (fun q b h0 => pI_o h0) (fun q b _ _ _ => rfl) rfl rfl (Or.inr rfl) ⟨s1, s2, s3, s4, s5, s6, s7, s8, s9, s10, s11, s12, s13, s14, s15, s16, s17, s18, s19, s20, s21, s22⟩ (qX_fr h.1.2.1 (fun q b hq => rfl) (fun b => rfl) (fun q b hq => rfl)) hR, fun q b hq => rfl, fun b hb => pI_p (by omega), fun b => rfl, fun b => rfl⟩
  by_cases k6 : k = 928
  · rw [if_pos k6, if_pos k6]; exact hfr
  rw [if_neg k6, if_neg k6]
  by_cases k7 : k = 930
  · rw [if_pos k7, if_pos k7]
    obtain ⟨i1, i2, i3, i4, i5, i6, i7⟩ := y_wcs (v := x) 8 0 c (eb_pI r 0 35 0) (by omega) h.1.2.2.2.2.2.2 hfr.1.1.2.2.2.2.2.1 8
    refine ⟨Q_pmp h i3 i4 (fun b _ => congrFun (congrFun i5 5) b) (fun q b q4 q0 => (i6 q b q4).trans (if_neg q0)) (fun q b _ => congrFun (congrFun i7 q) b) ((i6 0 35 (by omega)).trans rfl) i1 i2, fun q b _ => congrFun (congrFun i5 q) b, fun b hb => (i6 0 b (by omega)).trans (pI_p (by omega)), fun b => (i6 6 b (by omega)).trans rfl, fun b => congrFun (congrFun i7 3) b⟩
  rw [if_neg k7, if_neg k7]
  have g1 : ∀ m : Nat, m < 2147483648 → ¬ k = nI m → ¬ k.toInt = m := fun m hm q z => q ((y_i6 k m hm).mpr z)
  have n1 := g1 768 (by omega) k1
  have n2 := g1 832 (by omega) k2
  have n3 := g1 833 (by omega) k3
  have n4 := g1 834 (by omega) k4
  have n5 := g1 835 (by omega) k5
  have n6 := g1 928 (by omega) k6
  have n7 := g1 930 (by omega) k7
  have hr : 944 ≤ k.toInt ∧ k.toInt ≤ 959 := by unfold ywr at hk; omega
  obtain ⟨j, hj, rfl⟩ := nI_of (x := k) (by rw [Int32.lt_iff_toInt_lt, show (0 : Int32).toInt = 0 by decide]; omega)
  rw [nI_toInt hj] at hr
  obtain ⟨i, hi16, rfl⟩ : ∃ i, i < 16 ∧ j = 944 + i := ⟨j - 944, by omega, by omega⟩
  rw [show nI (944 + i) - 944 = nI i from (pk_sub (a := 944 + i) (b := 944) (by omega)).trans (by rw [Nat.add_sub_cancel_left])]
  unfold m_X6_writeAddress m_X6_isAddressLocked m_X10_isLocked
  dsimp only
  by_cases h8 : i < 8
  · rw [if_pos (show nI i < 8 from nI_lt (b := 8) h8 (by omega)), if_pos (show nI i < 8 from nI_lt (b := 8) h8 (by omega))]
    exact hfr
  rw [if_neg (show ¬ nI i < 8 from nI_nlt (b := 8) (by omega) (by omega)), if_neg (show ¬ nI i < 8 from nI_nlt (b := 8) (by omega) (by omega)), if_neg (show ¬ (16 : Int32) ≤ nI i from nI_ge (b := 16) (by omega) (by omega)), nI_1, nI_clamp (n := i) (by omega), nI_clamp (n := i + 1) (by omega)]
  have hP := h.1.2.2.2.2.2.1
  have hL := h.1.2.2.2.2.2.2
  have e4 : ∀ b, (eb_pI r 0 35 0).1 4 b = r.1 4 b := fun b => rfl
  rw [e4, e4, (hP i (by omega) (by omega)).1]
  have doit : Q n t u v (m_X6_measureOut (m_X6_measureOut (eb_pJ c 5 i (x &&& 18014398509481983)) (nI i)) (nI (i + 1))) (eb_pJ (eb_pI r 0 35 0) 5 i (x &&& 18014398509481983)) ∧ yWf c (m_X6_measureOut (m_X6_measureOut (eb_pJ c 5 i (x &&& 18014398509481983)) (nI i)) (nI (i + 1))) r (eb_pJ (eb_pI r 0 35 0) 5 i (x &&& 18014398509481983)) := by
    obtain ⟨p1, p2, p3, p4⟩ := y_put_P hL (i := i) hi16 (c.1 4 i) (a := x &&& 18014398509481983) (eb_and54 x)
    have e0 : eb_pI c 4 i (c.1 4 i) = c := Prod.ext (funext fun a => funext fun b => by
      show (if a = 4 ∧ b = i then c.1 4 i else c.1 a b) = c.1 a b
      by_cases z : a = 4 ∧ b = i
      · rw [if_pos z, z.1, z.2]
      · rw [if_neg z]) rfl
    have eu : m_X6_put c (nI i) (c.1 4 i) (x &&& 18014398509481983) = m_X6_measureOut (m_X6_measureOut (eb_pJ c 5 i (x &&& 18014398509481983)) (nI i)) (nI (i + 1)) := by
      unfold m_X6_put
      rw [if_neg (nI_pos (by omega)), if_neg (show ¬ (16 : Int32) ≤ nI i from nI_ge (b := 16) hi16 (by omega)), nI_clamp (by omega), nI_1, e0]
    rw [eu] at p1 p2 p3 p4
    have hc4 : ∀ b, b < 8 → (m_X6_measureOut (m_X6_measureOut (eb_pJ c 5 i (x &&& 18014398509481983)) (nI i)) (nI (i + 1))).1 4 b = c.1 4 b := fun b hb => by rw [p3, if_neg (by omega)]
    refine ⟨Q_pmp h p2 hc4 (fun b hb => by rw [p4, if_neg (by omega)]) (fun q b q4 q0 => if_neg q0) (fun q b q5 => pJ_o q5) rfl p1 (fun b h0 hb => ?_), fun q b hq => p2.2 q b (by omega), fun b hb => pI_p (by omega), fun b => rfl, fun b => pJ_o (by omega)⟩
    rw [p3, p4]
    by_cases z : b = i
    · rw [if_pos z, if_pos z, z]
      exact ⟨(hP i (by omega) (by omega)).1, by simp [eb_pJ]⟩
    · rw [if_neg z, if_neg z, pJ_p z]
      exact hP b h0 hb
  by_cases l1 : (r.1 4 i &&& 128) = 0
  · rw [if_pos l1, if_pos l1, if_pos (show eb_b false = 0 by decide)]
    by_cases l15 : 15 ≤ i
    · rw [if_pos (show (15 : Int32) ≤ nI i from nI_le (a := 15) l15 (by omega)), if_pos (show (16 : Int32) ≤ nI (i + 1) from nI_le (a := 16) (by omega) (by omega)), if_pos (show eb_b false = 0 by decide)]
      exact doit
    · rw [if_neg (show ¬ (15 : Int32) ≤ nI i from nI_ge (b := 15) (by omega) (by omega)), if_neg (show ¬ (16 : Int32) ≤ nI (i + 1) from nI_ge (b := 16) (by omega) (by omega)), (hP (i + 1) (by omega) (by omega)).1, show ((r.1 4 (i + 1) >>> ((3 : Int32) &&& 31)) &&& 3) = ykd (r.1 4 (i + 1)) from rfl]
      have hlk := y_lk (r.1 4 (i + 1))
      by_cases l2 : (r.1 4 (i + 1) &&& 128) = 0
      · rw [if_pos l2, if_pos (show eb_b false = 0 by decide), if_neg (fun z => (hlk.mp z).1 l2), if_pos (show eb_b false = 0 by decide)]
        exact doit
      · rw [if_neg l2, if_neg (show ¬ eb_b true = 0 by decide)]
        by_cases l3 : ykd (r.1 4 (i + 1)) = 1
        · rw [if_pos l3, if_pos (hlk.mpr ⟨l2, l3⟩), if_neg (show ¬ eb_b true = 0 by decide)]
          exact hfr
        · rw [if_neg l3, if_neg (fun z => l3 (hlk.mp z).2), if_pos (show eb_b false = 0 by decide)]
          exact doit
  · rw [if_neg l1, if_neg l1, if_neg (show ¬ eb_b true = 0 by decide), if_neg (show ¬ eb_b true = 0 by decide)]
    exact hfr
theorem D_W {n t : Nat} {u : Int32} {s : Nat} {w : Int32} {c r c' r' : eb_St} (h : yD n t u s w c r) (hQ : Q n t u 0 c' r') (hW : yWf c c' r r') : yD n t u s w c' r' ∧ r'.1 0 8 = r.1 0 8 := by
  obtain ⟨_, hs, hset, hl, h37, h38, h41, h39, h40, h42, h95⟩ := h
  obtain ⟨w1, w2, w3, w4⟩ := hW
  refine ⟨⟨hQ, hs, ?_, ?_, ?_, ?_, ?_, ?_, ?_, ?_, ?_⟩, w2 8 (by omega)⟩
  · unfold m_X10_set at hset ⊢; rw [w2 8 (by omega)]; exact hset
  · rw [w3]; exact hl
  · rw [w2 37 (by omega)]; exact h37
  · rw [w2 38 (by omega)]; exact h38
  · rw [w2 41 (by omega)]; exact h41
  · rw [w2 39 (by omega)]; exact h39
  · rw [w2 40 (by omega)]; exact h40
  · rw [w2 42 (by omega)]; exact h42
  · rw [w1 9 5 (by omega), w1 (19 + s) 1 (by omega)]; exact h95
theorem O_acc124 {n t : Nat} {s : Nat} {w : Int32} {c r : eb_St} (h : yD n t 0 s w c r) {k : Int32} (hk : ywr k.toInt) (x : Int64) : yO n t 0 s (r.1 0 8) (m_X3_access_124 c s w (r.1 0 41) k (m_X10_has r k) x) (if ((r.1 0 41) &&& 3) = 1 then m_X10_sets (m_X10_write r k x) (m_X10_has r k) else (if ((r.1 0 41) &&& 3) = 2 then m_X10_sets (m_X10_write r k (m_X10_has r k ||| x)) (m_X10_has r k) else m_X10_sets (m_X10_write r k (m_X10_has r k &&& (x ^^^ (-1)))) (m_X10_has r k))) := by
  have go : ∀ y o : Int64, yO n t 0 s (r.1 0 8) (m_X3_finish (m_X1_write c k y) s w o) (m_X10_sets (m_X10_write r k y) o) := fun y o => by
    obtain ⟨q1, q2⟩ := Q_write h.1 hk y
    obtain ⟨d1, d2⟩ := D_W h q1 q2
    have k := O_fin d1 (v := o) rfl
    rw [d2] at k
    exact k
  unfold m_X3_access_124 m_X3_changed
  dsimp only
  by_cases q1 : ((r.1 0 41) &&& 3) = 1
  · rw [if_pos q1, if_pos q1]; exact go _ _
  · rw [if_neg q1, if_neg q1]
    by_cases q2 : ((r.1 0 41) &&& 3) = 2
    · rw [if_pos q2, if_pos q2]; exact go _ _
    · rw [if_neg q2, if_neg q2]; exact go _ _
theorem y_31i (y : Int32) : (y &&& 31) &&& 31 = y &&& 31 := by rw [Int32.and_assoc]; rfl
theorem O_csr {n t : Nat} {s : Nat} {w : Int32} {c r : eb_St} (h : yD n t 0 s w c r) (hm : c.1 9 3 = 3) (h4 : ¬ r.1 0 41 = 4) : yO n t 0 s (r.1 0 8) (m_X3_access c s w) (m_X10_csr r) := by
  have hx := D_x1 h
  have h41 := h.2.2.2.2.2.2.1
  have h37 := h.2.2.2.2.1
  have h39 := h.2.2.2.2.2.2.2.1
  have hk : m_X3_kind w = r.1 0 41 := by rw [h41]; exact y_f3 w
  have hsrc : eb_iushr w 15 &&& 31 = r.1 0 39 := by rw [h39]; exact y_rs1 w
  have hget : m_X7_get c s (r.1 0 39) = m_X10_x r (r.1 0 39) := by
    rw [hx, ← hsrc]
    unfold m_X3_first m_X7_get
    rw [y_31i]
  unfold m_X3_access m_X10_csr
  rw [hk, h37]
  dsimp only
  rw [hsrc]
  generalize eb_iushr w 20 = k
  have hwr := y_wr k
  have hth := y_th k
  have hic := y_ic k
  have hsame : m_X1_isThere k = m_X10_isCsr k := Bool.eq_iff_iff.mpr (hth.trans hic.symm)
  have W : ∀ x : Int64, (x = if r.1 0 41 ≤ 4 then m_X10_x r (r.1 0 39) else (r.1 0 39).toInt64) → yO n t 0 s (r.1 0 8) (m_X3_access_32 c s w (r.1 0 41) k (r.1 0 39)) (m_X10_csr_50 r k x) := fun x hxx => by
    unfold m_X3_access_32 m_X3_access_37 m_X3_access_65 m_X10_csr_50 m_X10_csr_55 m_X10_csr_88
    dsimp only
    simp only [if_neg (show ¬ (1 : Int32) = 0 by decide), if_pos hm, if_neg h4]
    rw [hget]
    by_cases hy : ywr k.toInt
    · have n1 : ¬ k = 2818 := fun z => by rw [z, show (2818 : Int32).toInt = 2818 by decide] at hy; unfold ywr at hy; omega
      have n2 : ¬ k = 3860 := fun z => by rw [z, show (3860 : Int32).toInt = 3860 by decide] at hy; unfold ywr at hy; omega
      rw [hwr.mpr hy, hic.mpr (Or.inl hy), if_neg (show ¬ eb_b true = 0 by decide), if_neg (show ¬ eb_b true = 0 by decide), if_neg n1, if_neg n2, y_read h.1 (Or.inl hy)]
      have key := O_acc124 h hy x
      by_cases q : r.1 0 41 ≤ 4
      · rw [if_pos q] at hxx
        rw [if_pos q, ← hxx]
        exact key
      · rw [if_neg q] at hxx
        rw [if_neg q, ← hxx]
        exact key
    · have hw0 : m_X1_isWritable k = false := by
        cases hz : m_X1_isWritable k with
        | false => rfl
        | true => exact absurd (hwr.mp hz) hy
      rw [hw0, if_pos (show eb_b false = 0 by decide)]
      cases hz : m_X10_isCsr k with
      | false => exact O_ill h
      | true =>
        rw [if_neg (show ¬ eb_b true = 0 by decide)]
        rcases (hic.mp hz).resolve_left hy with z | z
        · rw [if_pos (show k = 2818 from (y_i6 k 2818 (by omega)).mpr z)]; exact O_ill h
        · have n1 : ¬ k = 2818 := fun z2 => by rw [z2] at z; exact absurd z (by decide)
          rw [if_neg n1, if_pos (show k = 3860 from (y_i6 k 3860 (by omega)).mpr z)]; exact O_ill h
  have R : ∀ x : Int64, yO n t 0 s (r.1 0 8) (m_X3_access_37 c s w (r.1 0 41) k (r.1 0 39) 0) (m_X10_csr_55 r k x 0) := fun x => by
    unfold m_X3_access_37 m_X3_access_65 m_X10_csr_55 m_X10_csr_88
    dsimp only
    simp only [if_pos (show (0 : Int32) = 0 from rfl), if_pos hm, if_neg h4, hsame]
    cases hz : m_X10_isCsr k with
    | false => exact O_ill h
    | true =>
      rw [if_neg (show ¬ eb_b true = 0 by decide), if_neg (show ¬ eb_b true = 0 by decide), y_read h.1 (hic.mp hz)]
      exact O_fin h rfl
  have key : ∀ x : Int64, (x = if r.1 0 41 ≤ 4 then m_X10_x r (r.1 0 39) else (r.1 0 39).toInt64) → yO n t 0 s (r.1 0 8) (if ((r.1 0 41) &&& 3) = 1 then m_X3_access_32 c s w (r.1 0 41) k (r.1 0 39) else (if r.1 0 39 = 0 then m_X3_access_37 c s w (r.1 0 41) k (r.1 0 39) 0 else m_X3_access_32 c s w (r.1 0 41) k (r.1 0 39))) (m_X10_csr_32 r k x) := fun x hxx => by
    unfold m_X10_csr_32
    by_cases q1 : ((r.1 0 41) &&& 3) = 1
    · rw [if_pos q1, if_pos q1]; exact W x hxx
    · rw [if_neg q1, if_neg q1]
      by_cases q2 : r.1 0 39 = 0
      · rw [if_pos q2, if_pos q2]; exact R x
      · rw [if_neg q2, if_neg q2]; exact W x hxx
  by_cases q : r.1 0 41 ≤ 4
  · rw [if_pos q]; exact key _ (by rw [if_pos q])
  · rw [if_neg q]; exact key _ (by rw [if_neg q])
