/-! THE REFERENCE: what stays true of its state: who runs is no one or a place; the enclaves' rows lie in memory; the fields of an instruction within their bounds; the mode 0 or 1 -/
def rJ (σ : eb_St) : Prop := (σ.1 0 8 = -1 ∨ (vp_in (σ.1 0 8) 6 ∧ 8 ≤ (σ.1 8 (σ.1 0 8).toNatClampNeg).toInt)) ∧ (∀ e, e < 6 → 0 ≤ (σ.1 7 e).toInt ∧ 0 ≤ (σ.1 8 e).toInt ∧ (σ.1 7 e).toInt + (σ.1 8 e).toInt ≤ 65536) ∧ vp_in (σ.1 0 38) 32 ∧ vp_in (σ.1 0 39) 32 ∧ vp_in (σ.1 0 40) 32 ∧ (σ.1 0 4 = 0 ∨ σ.1 0 4 = 1) ∧ vp_in (σ.1 0 41) 8 ∧ (∀ e, e < 6 → ¬ σ.1 6 e = 0 → 8 ≤ (σ.1 8 e).toInt) ∧ (∀ e, e < 6 → 0 ≤ (σ.1 10 e).toInt ∧ ((σ.1 11 e).toInt ≤ 0 ∨ 8 ≤ (σ.1 11 e).toInt)) ∧ ∀ i, i < 16 → 0 ≤ (σ.2 5 i).toInt ∧ (σ.2 5 i).toInt < 18014398509481984
theorem rJ_m1 {σ : eb_St} (h : rJ σ) : rJ (eb_pI σ 0 8 (-1)) := ⟨Or.inl rfl, h.2⟩
theorem rJ_run {σ : eb_St} {v : Int32} (h : rJ σ) (hv : vp_in v 6 ∧ 8 ≤ (σ.1 8 v.toNatClampNeg).toInt) : rJ (eb_pI σ 0 8 v) := ⟨Or.inr hv, h.2⟩
theorem rJ_rd {σ : eb_St} {v : Int32} (h : rJ σ) (hv : vp_in v 32) : rJ (eb_pI σ 0 38 v) := ⟨h.1, h.2.1, hv, h.2.2.2⟩
theorem rJ_s1 {σ : eb_St} {v : Int32} (h : rJ σ) (hv : vp_in v 32) : rJ (eb_pI σ 0 39 v) := ⟨h.1, h.2.1, h.2.2.1, hv, h.2.2.2.2⟩
theorem rJ_s2 {σ : eb_St} {v : Int32} (h : rJ σ) (hv : vp_in v 32) : rJ (eb_pI σ 0 40 v) := ⟨h.1, h.2.1, h.2.2.1, h.2.2.2.1, hv, h.2.2.2.2.2⟩
theorem rJ_mach {σ : eb_St} {v : Int32} (h : rJ σ) (hv : v = 0 ∨ v = 1) : rJ (eb_pI σ 0 4 v) := ⟨h.1, h.2.1, h.2.2.1, h.2.2.2.1, h.2.2.2.2.1, hv, h.2.2.2.2.2.2⟩
theorem rJ_f3 {σ : eb_St} {v : Int32} (h : rJ σ) (hv : vp_in v 8) : rJ (eb_pI σ 0 41 v) := ⟨h.1, h.2.1, h.2.2.1, h.2.2.2.1, h.2.2.2.2.1, h.2.2.2.2.2.1, hv, h.2.2.2.2.2.2.2⟩
/-- an enclave's state: 0, or of an enclave that has room -/
theorem rJ_w {σ : eb_St} {k : Nat} {v : Int32} (h : rJ σ) (hv : v = 0 ∨ 8 ≤ (σ.1 8 k).toInt) : rJ (eb_pI σ 6 k v) := by
  refine ⟨h.1, h.2.1, h.2.2.1, h.2.2.2.1, h.2.2.2.2.1, h.2.2.2.2.2.1, h.2.2.2.2.2.2.1, fun e he hz => ?_, h.2.2.2.2.2.2.2.2⟩
  have hz : ¬ (if 6 = 6 ∧ e = k then v else σ.1 6 e) = 0 := hz
  show 8 ≤ (σ.1 8 e).toInt
  by_cases q : e = k
  · subst q
    rw [if_pos ⟨rfl, rfl⟩] at hz
    exact hv.resolve_left hz
  · rw [if_neg (fun z => q z.2)] at hz
    exact h.2.2.2.2.2.2.2.1 e he hz
theorem rJ_ad {σ : eb_St} {k : Nat} {v : Int64} (h : rJ σ) (hv : 0 ≤ v.toInt ∧ v.toInt < 18014398509481984) : rJ (eb_pJ σ 5 k v) := by
  refine ⟨h.1, h.2.1, h.2.2.1, h.2.2.2.1, h.2.2.2.2.1, h.2.2.2.2.2.1, h.2.2.2.2.2.2.1, h.2.2.2.2.2.2.2.1, h.2.2.2.2.2.2.2.2.1, fun i hi => ?_⟩
  show 0 ≤ (if 5 = 5 ∧ i = k then v else σ.2 5 i).toInt ∧ (if 5 = 5 ∧ i = k then v else σ.2 5 i).toInt < _
  by_cases q : i = k
  · rw [if_pos ⟨rfl, q⟩]; exact hv
  · rw [if_neg (fun z => q z.2)]; exact h.2.2.2.2.2.2.2.2.2 i hi
theorem rJ_in {σ : eb_St} (h : rJ σ) (h2 : ¬ σ.1 0 8 < 0) : vp_in (σ.1 0 8) 6 := by
  rcases h.1 with q | q
  · rw [q] at h2; exact absurd (by decide) h2
  · exact q.1
theorem rJ_sz {σ : eb_St} (h : rJ σ) (hr : vp_in (σ.1 0 8) 6) : 8 ≤ (σ.1 8 (σ.1 0 8).toNatClampNeg).toInt := by
  rcases h.1 with q | q
  · rw [q] at hr; exact absurd (Or.inl (by decide)) hr
  · exact q.2
theorem eb_em {c p : Prop} (kt : c → p) (kf : ¬ c → p) : p := Classical.byCases kt kf
theorem eb_emn {c p : Prop} (kt : ¬ c → p) (kf : c → p) : p := Classical.byCases kf kt
theorem eb_lt {v : Int32} {n : Nat} (h : vp_in v n) : v.toNatClampNeg < n := Nat.not_le.mp fun q => h (Or.inr q)
theorem eb_in_lt {v B : Int32} {n m : Nat} (h : vp_in v n) (h2 : v < B) (hB : B.toInt = m) : vp_in v m :=
  vp_in_iff.mpr ⟨(vp_in_iff.mp h).1, by rw [← hB]; exact Int32.lt_iff_toInt_lt.mp h2⟩
theorem eb_in_sum {a b s : Int32} (ha : 0 ≤ a.toInt) (hb : 0 ≤ b.toInt) (h : b < s) (hs : a.toInt + s.toInt ≤ 65536) : vp_in (a + b) 65536 := by
  have h1 := Int32.lt_iff_toInt_lt.mp h
  have e : (a + b).toInt = a.toInt + b.toInt := eb_addI (by omega) (by omega)
  exact vp_in_iff.mpr ⟨by omega, by omega⟩
theorem eb_in_sum2 {a b : Int32} (ha : 0 ≤ a.toInt) (hb : 0 ≤ b) (h : a.toInt + b.toInt < 65536) : vp_in (a + b) 65536 := by
  have h1 := eb_nn hb
  have e : (a + b).toInt = a.toInt + b.toInt := eb_addI (by omega) (by omega)
  exact vp_in_iff.mpr ⟨by omega, by omega⟩
theorem eb_in_off {v c : Int32} {n k : Nat} (h : vp_in v k) (hc : 0 ≤ c.toInt) (hs : c.toInt + k ≤ n) (hn : n ≤ 2147483647) : vp_in (c + v) n := by
  obtain ⟨h0, h1⟩ := vp_in_iff.mp h
  have e : (c + v).toInt = c.toInt + v.toInt := eb_addI (by omega) (by omega)
  exact vp_in_iff.mpr ⟨by omega, by omega⟩
theorem eb_in_reg {z k : Int32} (hz : vp_in z 7) (hk : vp_in k 32) : vp_in (32 * z + k) 224 := by
  obtain ⟨h0, h1⟩ := vp_in_iff.mp hz
  obtain ⟨h2, h3⟩ := vp_in_iff.mp hk
  have e0 : (32 : Int32).toInt = 32 := by decide
  have e1 : (32 * z).toInt = 32 * z.toInt := by rw [eb_mulI (by rw [e0]; omega) (by rw [e0]; omega), e0]
  have e : (32 * z + k).toInt = 32 * z.toInt + k.toInt := by rw [eb_addI (by omega) (by omega), e1]
  exact vp_in_iff.mpr ⟨by omega, by omega⟩
theorem eb_take0 {x a n : Int32} (e : x = n - 1) (h1 : a.toInt + n.toInt ≤ 65536) (h2 : 0 ≤ n.toInt) : a.toInt + x.toInt < 65536 := by
  have e0 : (1 : Int32).toInt = 1 := by decide
  have hm := eb_max n
  have e1 : (n - 1).toInt = n.toInt - 1 := by rw [eb_subI (by rw [e0]; omega) (by rw [e0]; omega), e0]
  rw [e]; omega
theorem eb_in_bytes {v k : Int32} (h : v = 0 ∨ v = 8) (h0 : 0 ≤ k) (h1 : k.toInt ≤ 7) : vp_in (v + k) 16 := by
  have h2 := eb_nn h0
  have e8 : (8 : Int32).toInt = 8 := by decide
  have e0 : (0 : Int32).toInt = 0 := by decide
  rcases h with rfl | rfl
  · have e : ((0 : Int32) + k).toInt = k.toInt := by rw [eb_addI (by rw [e0]; omega) (by rw [e0]; omega), e0]; omega
    exact vp_in_iff.mpr ⟨by omega, by omega⟩
  · have e : ((8 : Int32) + k).toInt = 8 + k.toInt := by rw [eb_addI (by rw [e8]; omega) (by rw [e8]; omega), e8]
    exact vp_in_iff.mpr ⟨by omega, by omega⟩

theorem eb_upL {v x B : Int64} {n : Nat} (h : v < B) (e : x = v + 1) (hn : (B.toInt - v.toInt).toNat < n + 1) : (B.toInt - x.toInt).toNat < n := by
  have h1 : v.toInt < B.toInt := Int64.lt_iff_toInt_lt.mp h
  have h2 := B.toInt_le
  have h4 := v.le_toInt
  have h3 : Int64.maxValue.toInt = 9223372036854775807 := by decide
  have h5 : Int64.minValue.toInt = -9223372036854775808 := by decide
  have e1 : x.toInt = v.toInt + 1 := by
    rw [e, Int64.toInt_add, show (1 : Int64).toInt = 1 by decide]
    exact Int.bmod_eq_of_le (by omega) (by omega)
  omega
theorem eb_nleL {a b : Int64} (h : ¬ a ≤ b) : b < a := by
  rw [Int64.lt_iff_toInt_lt]; rw [Int64.le_iff_toInt_le] at h; omega
/-- an address that is a multiple of 8 below 65536 has its eight bytes in memory -/
theorem eb_word8 {a : Int32} (h0 : ¬ a < 0) (h1 : ¬ (65536 : Int32) ≤ a) (h2 : a - a / 8 * 8 = 0) : 0 ≤ a.toInt ∧ a.toInt + (8 : Int32).toInt ≤ 65536 := by
  obtain ⟨j, hj, rfl⟩ := nI_of h0
  have e8 : (8 : Int32).toInt = 8 := by decide
  have h3 := Int32.lt_iff_toInt_lt.mp (eb_nle h1)
  rw [show (65536 : Int32).toInt = 65536 by decide, nI_toInt hj] at h3
  rw [show (8 : Int32) = nI 8 by decide, pk_rem hj (by omega) (by omega), ← nI_0, nI_eq (by omega) (by omega)] at h2
  rw [e8, nI_toInt hj]
  omega
theorem eb_b_n0 {z : Bool} (h : ¬ eb_b z = 0) : z = true := by cases z <;> first | rfl | exact absurd rfl h
theorem eb_ge0 {v : Int32} (h : 0 ≤ v) : ¬ v < 0 := by
  rw [Int32.lt_iff_toInt_lt]; have := Int32.le_iff_toInt_le.mp h; omega
