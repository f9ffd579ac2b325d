/-! numbers of CREATE -/
theorem eb_rdI {σ : eb_St} {k j : Nat} {v : Int32} : (eb_pI σ k j v).1 k j = v := by simp [eb_pI]
theorem eb_pI_row {σ : eb_St} {k j b : Nat} {v : Int32} : (eb_pI σ k j v).1 k b = if b = j then v else σ.1 k b := by simp [eb_pI]
theorem rJ_bs {σ : eb_St} {k : Nat} {a n : Int32} (h : rJ σ) (hab : 0 ≤ a.toInt ∧ 8 ≤ n.toInt ∧ a.toInt + n.toInt ≤ 65536) : rJ (eb_pI (eb_pI σ 7 k a) 8 k n) := by
  have r8 : ∀ e, (eb_pI (eb_pI σ 7 k a) 8 k n).1 8 e = if e = k then n else σ.1 8 e := fun e => by simp [eb_pI]
  have r7 : ∀ e, (eb_pI (eb_pI σ 7 k a) 8 k n).1 7 e = if e = k then a else σ.1 7 e := fun e => by simp [eb_pI]
  have g8 : ∀ e, 8 ≤ (σ.1 8 e).toInt → 8 ≤ ((eb_pI (eb_pI σ 7 k a) 8 k n).1 8 e).toInt := fun e he => by
    rw [r8]; by_cases q : e = k
    · rw [if_pos q]; exact hab.2.1
    · rw [if_neg q]; exact he
  refine ⟨?_, fun e he => ?_, h.2.2.1, h.2.2.2.1, h.2.2.2.2.1, h.2.2.2.2.2.1, h.2.2.2.2.2.2.1, fun e he hz => g8 e (h.2.2.2.2.2.2.2.1 e he hz), h.2.2.2.2.2.2.2.2⟩
  · rcases h.1 with q | q
    · exact Or.inl q
    · exact Or.inr ⟨q.1, g8 _ q.2⟩
  · rw [r7, r8]
    by_cases q : e = k
    · rw [if_pos q, if_pos q]; omega
    · rw [if_neg q, if_neg q]; exact h.2.1 e he
theorem rJ_sh {σ : eb_St} {k : Nat} {v : Int32} (h : rJ σ) (hv : 0 ≤ v.toInt) : rJ (eb_pI σ 10 k v) := by
  refine ⟨h.1, h.2.1, h.2.2.1, h.2.2.2.1, h.2.2.2.2.1, h.2.2.2.2.2.1, h.2.2.2.2.2.2.1, h.2.2.2.2.2.2.2.1, fun e he => ?_, h.2.2.2.2.2.2.2.2.2⟩
  have r := h.2.2.2.2.2.2.2.2.1 e he
  refine ⟨?_, r.2⟩
  rw [eb_pI_row]
  by_cases q : e = k
  · rw [if_pos q]; exact hv
  · rw [if_neg q]; exact r.1
theorem rJ_ss {σ : eb_St} {k : Nat} {v : Int32} (h : rJ σ) (hv : v.toInt ≤ 0 ∨ 8 ≤ v.toInt) : rJ (eb_pI σ 11 k v) := by
  refine ⟨h.1, h.2.1, h.2.2.1, h.2.2.2.1, h.2.2.2.2.1, h.2.2.2.2.2.1, h.2.2.2.2.2.2.1, h.2.2.2.2.2.2.2.1, fun e he => ?_, h.2.2.2.2.2.2.2.2.2⟩
  have r := h.2.2.2.2.2.2.2.2.1 e he
  refine ⟨r.1, ?_⟩
  rw [eb_pI_row]
  by_cases q : e = k
  · rw [if_pos q]; exact hv
  · rw [if_neg q]; exact r.2
theorem eb_img {i m k : Int32} (h : m.toInt = 0 ∨ (0 ≤ i.toInt ∧ i.toInt + m.toInt ≤ 65536)) (hk : 0 ≤ k.toInt) (h2 : k < m) : vp_in (i + k) 65536 := by
  have h3 := Int32.lt_iff_toInt_lt.mp h2
  rcases h with q | q
  · omega
  · exact eb_in_sum q.1 hk h2 q.2
theorem eb_cop {m k : Int32} (h : m.toInt ≤ 16384) (hk : 0 ≤ k.toInt) (h2 : k < m) : vp_in k 16384 := by
  have h3 := Int32.lt_iff_toInt_lt.mp h2
  exact vp_in_iff.mpr ⟨hk, by omega⟩
theorem eb_wid {v : Int32} {n m : Nat} (h : vp_in v n) (hnm : n ≤ m) : vp_in v m := by
  obtain ⟨a, b⟩ := vp_in_iff.mp h
  exact vp_in_iff.mpr ⟨a, by omega⟩
theorem eb_l2i {x : Int64} (h0 : 0 ≤ x.toInt) (h1 : x.toInt < 2147483648) : x.toInt32.toInt = x.toInt := by
  obtain ⟨k, hk, rfl⟩ := pk_lOf (x := x) (by rw [Int64.lt_iff_toInt_lt, show (0 : Int64).toInt = 0 by decide]; omega)
  rw [pk_lT hk] at h1
  rw [lN_i, pk_lT hk, nI_toInt (by omega)]
theorem l_X10_in {v a b : Int64} (h : m_X10_in v a b = true) : a.toInt ≤ v.toInt ∧ v.toInt ≤ b.toInt := by
  unfold m_X10_in at h
  by_cases q1 : v < a
  · rw [if_pos q1] at h; exact absurd h (by decide)
  · rw [if_neg q1] at h
    by_cases q2 : b < v
    · rw [if_pos q2] at h; exact absurd h (by decide)
    · rw [Int64.lt_iff_toInt_lt] at q1 q2; omega
theorem l_X10_isPower {v a b : Int64} (h : m_X10_isPower v a b = true) : a.toInt ≤ v.toInt ∧ v.toInt ≤ b.toInt := by
  unfold m_X10_isPower at h
  by_cases q1 : v < a
  · rw [if_pos q1] at h; exact absurd h (by decide)
  · rw [if_neg q1] at h
    by_cases q2 : b < v
    · rw [if_pos q2] at h; exact absurd h (by decide)
    · rw [Int64.lt_iff_toInt_lt] at q1 q2; omega
theorem eb_64k {n : Int64} (h0 : 0 ≤ n.toInt) (h1 : n.toInt ≤ 65536) : (65536 - n).toInt = 65536 - n.toInt := by
  rw [Int64.toInt_sub, show (65536 : Int64).toInt = 65536 by decide]
  exact Int.bmod_eq_of_le (by omega) (by omega)
theorem l_in05 {v : Int64} (h : m_X10_in v 0 5 = true) : vp_in v.toInt32 6 := by
  have q := l_X10_in h
  rw [show (0 : Int64).toInt = 0 by decide, show (5 : Int64).toInt = 5 by decide] at q
  have e := eb_l2i q.1 (by omega)
  exact vp_in_iff.mpr ⟨by omega, by omega⟩
theorem l_X10_isLive {σ : eb_St} {e : Int32} (h : m_X10_isLive σ e = true) : ¬ σ.1 6 e.toNatClampNeg = 0 := by
  intro q
  unfold m_X10_isLive at h
  rw [if_pos q] at h
  exact absurd h (by decide)
/-- what CREATE's own tests leave -/
def rQ1 (a n i m : Int64) : Prop := (32 ≤ n.toInt ∧ n.toInt ≤ 16384) ∧ (0 ≤ a.toInt ∧ a.toInt + n.toInt ≤ 65536) ∧ (0 ≤ m.toInt ∧ m.toInt ≤ n.toInt) ∧ (m.toInt = 0 ∨ (0 ≤ i.toInt ∧ i.toInt + m.toInt ≤ 65536))
def rQ2 (w : Int64) : Prop := w.toInt = 0 ∨ (8 ≤ w.toInt ∧ w.toInt ≤ 4096)
def rQ3 (s w : Int64) : Prop := w.toInt = 0 ∨ (0 ≤ s.toInt ∧ s.toInt + w.toInt ≤ 65536)
theorem eb_nz {n : Int64} (h : 1 ≤ n.toInt) : ¬ n = 0 := fun q => by rw [q] at h; exact absurd h (by decide)
theorem eb_z0 {n : Int64} (h : n = 0) : n.toInt = 0 := by rw [h]; decide
theorem l_X10_isTold {f n : Int64} (h : m_X10_isTold f n = true) (h0 : 0 ≤ n.toInt) (h1 : n.toInt ≤ 65536) : 0 ≤ f.toInt ∧ f.toInt + n.toInt ≤ 65536 := by
  unfold m_X10_isTold at h
  by_cases q1 : f < 0
  · rw [if_pos q1] at h; exact absurd h (by decide)
  · rw [if_neg q1] at h
    by_cases q2 : (f - f / n * n) = 0
    · rw [if_pos q2] at h
      by_cases q3 : (65536 - n) < f
      · rw [if_pos q3] at h; exact absurd h (by decide)
      · rw [Int64.lt_iff_toInt_lt] at q1 q3
        rw [eb_64k h0 h1] at q3
        rw [show (0 : Int64).toInt = 0 by decide] at q1
        omega
    · rw [if_neg q2] at h; exact absurd h (by decide)
/-- the tests on the image's place: none, or within memory -/
theorem eb_q1 {a n i m : Int64} (hp : m_X10_isPower n 32 16384 = true) (ht : m_X10_isTold a n = true) (hi : m_X10_in m 0 n = true) (him : m ≤ 0 ∨ (¬ i < 0 ∧ i ≤ 65536 - m)) : rQ1 a n i m := by
  have p := l_X10_isPower hp
  rw [show (32 : Int64).toInt = 32 by decide, show (16384 : Int64).toInt = 16384 by decide] at p
  have t := l_X10_isTold ht (by omega) (by omega)
  have q := l_X10_in hi
  rw [show (0 : Int64).toInt = 0 by decide] at q
  refine ⟨p, t, q, ?_⟩
  rcases him with z | ⟨z1, z2⟩
  · rw [Int64.le_iff_toInt_le, show (0 : Int64).toInt = 0 by decide] at z
    left; omega
  · rw [Int64.lt_iff_toInt_lt, show (0 : Int64).toInt = 0 by decide] at z1
    rw [Int64.le_iff_toInt_le, eb_64k q.1 (by omega)] at z2
    right; omega
theorem eb_q2 {w : Int64} (h : m_X10_isPower w 8 4096 = true) : rQ2 w := by
  have p := l_X10_isPower h
  rw [show (8 : Int64).toInt = 8 by decide, show (4096 : Int64).toInt = 4096 by decide] at p
  exact Or.inr p
theorem eb_q3 {s w : Int64} (h2 : rQ2 w) (h : m_X10_isTold s w = true) : rQ3 s w := by
  rcases h2 with q | q
  · exact Or.inl q
  · exact Or.inr (l_X10_isTold h (by omega) (by omega))
theorem eb_q2nz {w : Int64} (h : rQ2 w) (hz : ¬ w = 0) : ¬ w = 0 := hz
theorem eb_mk1 {a n i m : Int64} (h : rQ1 a n i m) : 0 ≤ a.toInt32.toInt ∧ 8 ≤ n.toInt32.toInt ∧ a.toInt32.toInt + n.toInt32.toInt ≤ 65536 := by
  obtain ⟨⟨h1, h2⟩, ⟨h3, h4⟩, ⟨h5, h6⟩, h7⟩ := h
  rw [eb_l2i h3 (by omega), eb_l2i (by omega) (by omega)]
  omega
theorem eb_mk2 {a n i m : Int64} (h : rQ1 a n i m) : 0 ≤ m.toInt32.toInt ∧ m.toInt32.toInt ≤ 16384 := by
  obtain ⟨⟨h1, h2⟩, ⟨h3, h4⟩, ⟨h5, h6⟩, h7⟩ := h
  rw [eb_l2i h5 (by omega)]
  omega
theorem eb_mk3 {a n i m : Int64} (h : rQ1 a n i m) : m.toInt32.toInt = 0 ∨ (0 ≤ i.toInt32.toInt ∧ i.toInt32.toInt + m.toInt32.toInt ≤ 65536) := by
  obtain ⟨⟨h1, h2⟩, ⟨h3, h4⟩, ⟨h5, h6⟩, h7⟩ := h
  rw [eb_l2i h5 (by omega)]
  rcases h7 with q | q
  · exact Or.inl q
  · rw [eb_l2i q.1 (by omega)]; exact Or.inr q
theorem eb_mk4 {s w : Int64} (h2 : rQ2 w) (h : rQ3 s w) (hz : ¬ w = 0) : 0 ≤ s.toInt32.toInt := by
  rcases h with q | q
  · exact absurd (Int64.toInt_inj.mp (by rw [q]; decide)) hz
  · rcases h2 with r | r
    · exact absurd (Int64.toInt_inj.mp (by rw [r]; decide)) hz
    · rw [eb_l2i q.1 (by omega)]; exact q.1
theorem eb_mk5 {w : Int64} (h2 : rQ2 w) : w.toInt32.toInt ≤ 0 ∨ 8 ≤ w.toInt32.toInt := by
  rcases h2 with r | r
  · rw [eb_l2i (by omega) (by omega)]; left; omega
  · rw [eb_l2i (by omega) (by omega)]; right; omega
