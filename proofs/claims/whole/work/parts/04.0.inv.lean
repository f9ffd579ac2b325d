/-! THE REFERENCE: what stays true of its state: who runs is no one or a place; the enclaves' rows lie in memory; the fields of an instruction within their bounds; the mode 0 or 1 -/
def rJ (σ : eb_St) : Prop := (σ.1 0 8 = -1 ∨ vp_in (σ.1 0 8) 6) ∧ (∀ e, e < 6 → 0 ≤ (σ.1 7 e).toInt ∧ 0 ≤ (σ.1 8 e).toInt ∧ (σ.1 7 e).toInt + (σ.1 8 e).toInt ≤ 65536) ∧ vp_in (σ.1 0 38) 32 ∧ vp_in (σ.1 0 39) 32 ∧ vp_in (σ.1 0 40) 32 ∧ (σ.1 0 4 = 0 ∨ σ.1 0 4 = 1) ∧ vp_in (σ.1 0 41) 8
theorem rJ_m1 {σ : eb_St} (h : rJ σ) : rJ (eb_pI σ 0 8 (-1)) := ⟨Or.inl rfl, h.2⟩
theorem rJ_run {σ : eb_St} {v : Int32} (h : rJ σ) (hv : vp_in v 6) : rJ (eb_pI σ 0 8 v) := ⟨Or.inr hv, h.2⟩
theorem rJ_rd {σ : eb_St} {v : Int32} (h : rJ σ) (hv : vp_in v 32) : rJ (eb_pI σ 0 38 v) := ⟨h.1, h.2.1, hv, h.2.2.2⟩
theorem rJ_s1 {σ : eb_St} {v : Int32} (h : rJ σ) (hv : vp_in v 32) : rJ (eb_pI σ 0 39 v) := ⟨h.1, h.2.1, h.2.2.1, hv, h.2.2.2.2⟩
theorem rJ_s2 {σ : eb_St} {v : Int32} (h : rJ σ) (hv : vp_in v 32) : rJ (eb_pI σ 0 40 v) := ⟨h.1, h.2.1, h.2.2.1, h.2.2.2.1, hv, h.2.2.2.2.2⟩
theorem rJ_mach {σ : eb_St} {v : Int32} (h : rJ σ) (hv : v = 0 ∨ v = 1) : rJ (eb_pI σ 0 4 v) := ⟨h.1, h.2.1, h.2.2.1, h.2.2.2.1, h.2.2.2.2.1, hv, h.2.2.2.2.2.2⟩
theorem rJ_f3 {σ : eb_St} {v : Int32} (h : rJ σ) (hv : vp_in v 8) : rJ (eb_pI σ 0 41 v) := ⟨h.1, h.2.1, h.2.2.1, h.2.2.2.1, h.2.2.2.2.1, h.2.2.2.2.2.1, hv⟩
theorem rJ_in {σ : eb_St} (h : rJ σ) (h2 : ¬ σ.1 0 8 < 0) : vp_in (σ.1 0 8) 6 := by
  rcases h.1 with q | q
  · rw [q] at h2; exact absurd (by decide) h2
  · exact q
theorem eb_em {c p : Prop} (kt : c → p) (kf : ¬ c → p) : p := Classical.byCases kt kf
theorem eb_emn {c p : Prop} (kt : ¬ c → p) (kf : c → p) : p := Classical.byCases kf kt
theorem eb_lt {v : Int32} {n : Nat} (h : vp_in v n) : v.toNatClampNeg < n := Nat.not_le.mp fun q => h (Or.inr q)
theorem eb_in_lt {v B : Int32} {n m : Nat} (h : vp_in v n) (h2 : v < B) (hB : B.toInt = m) : vp_in v m :=
  vp_in_iff.mpr ⟨(vp_in_iff.mp h).1, by rw [← hB]; exact Int32.lt_iff_toInt_lt.mp h2⟩
theorem eb_in_sum {a b s : Int32} (ha : 0 ≤ a.toInt) (hb : 0 ≤ b.toInt) (h : b < s) (hs : a.toInt + s.toInt ≤ 65536) : vp_in (a + b) 65536 := by
  have h1 := Int32.lt_iff_toInt_lt.mp h
  have e : (a + b).toInt = a.toInt + b.toInt := eb_addI (by omega) (by omega)
  exact vp_in_iff.mpr ⟨by omega, by omega⟩
theorem eb_in_sum2 {a b : Int32} (ha : 0 ≤ a.toInt) (hb : 0 ≤ b) (h : a.toInt + b.toInt < 65536) : vp_in (a + b) 65536 := by
  have h1 := eb_nn hb
  have e : (a + b).toInt = a.toInt + b.toInt := eb_addI (by omega) (by omega)
  exact vp_in_iff.mpr ⟨by omega, by omega⟩
theorem eb_in_off {v c : Int32} {n k : Nat} (h : vp_in v k) (hc : 0 ≤ c.toInt) (hs : c.toInt + k ≤ n) (hn : n ≤ 2147483647) : vp_in (c + v) n := by
  obtain ⟨h0, h1⟩ := vp_in_iff.mp h
  have e : (c + v).toInt = c.toInt + v.toInt := eb_addI (by omega) (by omega)
  exact vp_in_iff.mpr ⟨by omega, by omega⟩
theorem eb_in_reg {z k : Int32} (hz : vp_in z 7) (hk : vp_in k 32) : vp_in (32 * z + k) 224 := by
  obtain ⟨h0, h1⟩ := vp_in_iff.mp hz
  obtain ⟨h2, h3⟩ := vp_in_iff.mp hk
  have e0 : (32 : Int32).toInt = 32 := by decide
  have e1 : (32 * z).toInt = 32 * z.toInt := by rw [eb_mulI (by rw [e0]; omega) (by rw [e0]; omega), e0]
  have e : (32 * z + k).toInt = 32 * z.toInt + k.toInt := by rw [eb_addI (by omega) (by omega), e1]
  exact vp_in_iff.mpr ⟨by omega, by omega⟩
theorem eb_take0 {x a n : Int32} (e : x = n - 1) (h1 : a.toInt + n.toInt ≤ 65536) (h2 : 0 ≤ n.toInt) : a.toInt + x.toInt < 65536 := by
  have e0 : (1 : Int32).toInt = 1 := by decide
  have hm := eb_max n
  have e1 : (n - 1).toInt = n.toInt - 1 := by rw [eb_subI (by rw [e0]; omega) (by rw [e0]; omega), e0]
  rw [e]; omega
theorem eb_in_bytes {v k : Int32} (h : v = 0 ∨ v = 8) (h0 : 0 ≤ k) (h1 : k.toInt ≤ 7) : vp_in (v + k) 16 := by
  have h2 := eb_nn h0
  have e8 : (8 : Int32).toInt = 8 := by decide
  have e0 : (0 : Int32).toInt = 0 := by decide
  rcases h with rfl | rfl
  · have e : ((0 : Int32) + k).toInt = k.toInt := by rw [eb_addI (by rw [e0]; omega) (by rw [e0]; omega), e0]; omega
    exact vp_in_iff.mpr ⟨by omega, by omega⟩
  · have e : ((8 : Int32) + k).toInt = 8 + k.toInt := by rw [eb_addI (by rw [e8]; omega) (by rw [e8]; omega), e8]
    exact vp_in_iff.mpr ⟨by omega, by omega⟩
