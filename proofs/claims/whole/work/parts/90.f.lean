/-! the protection entries -/
def cG (c c' : eb_St) : Prop := (∀ q b, ¬ q = 4 → ¬ q = 6 → ¬ q = 7 → c'.1 q b = c.1 q b) ∧ ∀ q b, ¬ q = 5 → c'.2 q b = c.2 q b
theorem cG_0 (c : eb_St) : cG c c := ⟨fun _ _ _ _ _ => rfl, fun _ _ _ => rfl⟩
theorem cG_t {a b c : eb_St} (h : cG a b) (h2 : cG b c) : cG a c := ⟨fun q k x y z => (h2.1 q k x y z).trans (h.1 q k x y z), fun q k x => (h2.2 q k x).trans (h.2 q k x)⟩
def qLj (c : eb_St) (i : Nat) : Prop := yad (c.2 5 i) ∧ yfit (c.1 6 i) (c.1 7 i) (yrl (c.1 4 i) (c.2 5 i) (ypc c i)) (yrh (c.1 4 i) (c.2 5 i) (ypc c i))
theorem qLj_fr {c c' : eb_St} {i : Nat} (h : qLj c i) (e4 : c'.1 4 i = c.1 4 i) (e6 : c'.1 6 i = c.1 6 i) (e7 : c'.1 7 i = c.1 7 i) (e5 : c'.2 5 i = c.2 5 i) (ep : ypc c' i = ypc c i) : qLj c' i := by
  unfold qLj
  rw [e4, e5, e6, e7, ep]
  exact h
theorem yad_0 : yad 0 := ⟨by decide, by decide⟩
theorem y_mo {c : eb_St} {i : Nat} (hi : i < 16) (ha : yad (c.2 5 i)) (hp : yad (ypc c i)) : qLj (m_X6_measureOut c (nI i)) i ∧ (∀ j, ¬ j = i → qLj c j → qLj (m_X6_measureOut c (nI i)) j) ∧ (∀ q b, ¬ q = 6 → ¬ q = 7 → (m_X6_measureOut c (nI i)).1 q b = c.1 q b) ∧ (m_X6_measureOut c (nI i)).2 = c.2 := by
  obtain ⟨l, h, e, f⟩ := y_measureOut c hi ha hp
  rw [e]
  refine ⟨⟨ha, ?_⟩, fun j hj hq => ?_, fun q b h6 h7 => by simp [eb_pI, h6, h7], rfl⟩
  · have e4 : (eb_pI (eb_pI c 6 i l) 7 i h).1 4 i = c.1 4 i := by simp [eb_pI]
    have e6 : (eb_pI (eb_pI c 6 i l) 7 i h).1 6 i = l := by simp [eb_pI]
    have e7 : (eb_pI (eb_pI c 6 i l) 7 i h).1 7 i = h := by simp [eb_pI]
    rw [e4, e6, e7]
    exact f
  · exact qLj_fr hq (by simp [eb_pI]) (by simp [eb_pI, hj]) (by simp [eb_pI, hj]) rfl rfl
theorem y_put_P {c : eb_St} (h : qL c) {i : Nat} (hi : i < 16) (cfg : Int32) {a : Int64} (ha : yad a) : qL (m_X6_put c (nI i) cfg a) ∧ cG c (m_X6_put c (nI i) cfg a) ∧ (∀ j, (m_X6_put c (nI i) cfg a).1 4 j = if j = i then cfg else c.1 4 j) ∧ ∀ j, (m_X6_put c (nI i) cfg a).2 5 j = if j = i then a else c.2 5 j := by
  have u : m_X6_put c (nI i) cfg a = m_X6_measureOut (m_X6_measureOut (eb_pJ (eb_pI c 4 i cfg) 5 i a) (nI i)) (nI (i + 1)) := by
    unfold m_X6_put
    rw [if_neg (nI_pos (by omega)), if_neg (show ¬ (16 : Int32) ≤ nI i from nI_ge (b := 16) hi (by omega)), nI_clamp (by omega), nI_1]
  rw [u]
  have v5 : ∀ j, (eb_pJ (eb_pI c 4 i cfg) 5 i a).2 5 j = if j = i then a else c.2 5 j := fun j => by simp [eb_pJ, eb_pI]
  have v4 : ∀ j, (eb_pJ (eb_pI c 4 i cfg) 5 i a).1 4 j = if j = i then cfg else c.1 4 j := fun j => by simp [eb_pJ, eb_pI]
  have vo : ∀ q b, ¬ q = 4 → (eb_pJ (eb_pI c 4 i cfg) 5 i a).1 q b = c.1 q b := fun q b hq => by simp [eb_pJ, eb_pI, hq]
  have vl : ∀ q b, ¬ q = 5 → (eb_pJ (eb_pI c 4 i cfg) 5 i a).2 q b = c.2 q b := fun q b hq => by simp [eb_pJ, eb_pI, hq]
  generalize eb_pJ (eb_pI c 4 i cfg) 5 i a = c1 at v5 v4 vo vl
  have hyp : ∀ j, j < 16 → yad (c1.2 5 j) := fun j hj => by
    rw [v5]
    by_cases q : j = i
    · rw [if_pos q]; exact ha
    · rw [if_neg q]; exact (h j hj).1
  have hypp : ∀ j, j < 16 → yad (ypc c1 j) := fun j hj => by
    unfold ypc
    by_cases q : j = 0
    · rw [if_pos q]; exact yad_0
    · rw [if_neg q]; exact hyp (j - 1) (by omega)
  have hold : ∀ j, j < 16 → ¬ j = i → ¬ j = i + 1 → qLj c1 j := fun j hj h1 h2 => by
    refine qLj_fr (h j hj) (by rw [v4, if_neg h1]) (vo _ _ (by omega)) (vo _ _ (by omega)) (by rw [v5, if_neg h1]) ?_
    unfold ypc
    by_cases q : j = 0
    · rw [if_pos q, if_pos q]
    · rw [if_neg q, if_neg q, v5, if_neg (by omega)]
  obtain ⟨m1, m2, m3, m4⟩ := y_mo hi (hyp i hi) (hypp i hi)
  generalize m_X6_measureOut c1 (nI i) = c2 at m1 m2 m3 m4
  have p2 : ∀ j, ypc c2 j = ypc c1 j := fun j => by unfold ypc; rw [m4]
  by_cases h16 : i + 1 < 16
  · obtain ⟨k1, k2, k3, k4⟩ := y_mo (c := c2) h16 (by rw [m4]; exact hyp _ h16) (by rw [p2]; exact hypp _ h16)
    refine ⟨fun j hj => ?_, ⟨fun q b q4 q6 q7 => by rw [k3 q b q6 q7, m3 q b q6 q7, vo q b q4], fun q b q5 => by rw [k4, m4, vl q b q5]⟩, fun j => by rw [k3 _ _ (by omega) (by omega), m3 _ _ (by omega) (by omega), v4], fun j => by rw [k4, m4, v5]⟩
    by_cases q1 : j = i + 1
    · rw [q1]; exact k1
    · refine k2 j q1 ?_
      by_cases q : j = i
      · rw [q]; exact m1
      · exact m2 j q (hold j hj q q1)
  · have e : m_X6_measureOut c2 (nI (i + 1)) = c2 := by
      unfold m_X6_measureOut
      rw [if_neg (nI_pos (by omega)), if_neg (show ¬ nI (i + 1) < 16 from nI_nlt (b := 16) (by omega) (by omega))]
    rw [e]
    refine ⟨fun j hj => ?_, ⟨fun q b q4 q6 q7 => by rw [m3 q b q6 q7, vo q b q4], fun q b q5 => by rw [m4, vl q b q5]⟩, fun j => by rw [m3 _ _ (by omega) (by omega), v4], fun j => by rw [m4, v5]⟩
    by_cases q : j = i
    · rw [q]; exact m1
    · exact m2 j q (hold j hj q (by omega))
theorem y_bt {r : eb_St} {i : Nat} (hi : i < 6) : m_X10_byteOf r (nI i) = if r.1 6 i = 0 then 0 else if nI i = r.1 0 8 then 31 else 24 := by
  unfold m_X10_byteOf m_X10_isLive
  rw [if_neg (show ¬ (6 : Int32) ≤ nI i from nI_ge (b := 6) hi (by omega)), nI_clamp (by omega)]
  by_cases h : r.1 6 i = 0
  · rw [if_pos h, if_pos h]; rfl
  · rw [if_neg h, if_neg h]; rfl
theorem y_bt6 (r : eb_St) : m_X10_byteOf r (nI 6) = if r.1 0 8 < 0 then 0 else if r.1 11 (r.1 0 8).toNatClampNeg ≤ 0 then 0 else 27 := rfl
theorem y_bt7 (r : eb_St) : m_X10_byteOf r (nI 7) = if r.1 0 8 < 0 then 0 else 24 := rfl
theorem y_bt8 {r : eb_St} {i : Nat} (h0 : 8 ≤ i) (hi : i < 16) : m_X10_byteOf r (nI i) = r.1 4 i := by
  unfold m_X10_byteOf
  rw [if_pos (show (6 : Int32) ≤ nI i from nI_le (a := 6) (by omega) (by omega)), if_neg (show ¬ nI i = 6 from fun z => by have := (nI_eq (b := 6) (by omega) (by omega)).mp z; omega), if_neg (show ¬ nI i = 7 from fun z => by have := (nI_eq (b := 7) (by omega) (by omega)).mp z; omega), nI_clamp (by omega)]
theorem y_at {r : eb_St} {i : Nat} (hi : i < 6) : m_X10_addressOf r (nI i) = if r.1 6 i = 0 then 0 else m_X10_napot (r.1 7 i) (r.1 8 i) := by
  unfold m_X10_addressOf m_X10_isLive
  rw [if_neg (show ¬ (6 : Int32) ≤ nI i from nI_ge (b := 6) hi (by omega)), nI_clamp (by omega)]
  by_cases h : r.1 6 i = 0
  · rw [if_pos h, if_pos h]; rfl
  · rw [if_neg h, if_neg h]; rfl
theorem y_at6 (r : eb_St) : m_X10_addressOf r (nI 6) = if m_X10_byteOf r (nI 6) = 0 then 0 else m_X10_napot (r.1 10 (r.1 0 8).toNatClampNeg) (r.1 11 (r.1 0 8).toNatClampNeg) := rfl
theorem y_at7 (r : eb_St) : m_X10_addressOf r (nI 7) = if r.1 0 8 < 0 then 0 else 18014398509481983 := rfl
theorem y_at8 {r : eb_St} {i : Nat} (h0 : 8 ≤ i) (hi : i < 16) : m_X10_addressOf r (nI i) = r.2 5 i := by
  unfold m_X10_addressOf
  rw [if_pos (show (6 : Int32) ≤ nI i from nI_le (a := 6) (by omega) (by omega)), if_neg (show ¬ nI i = 6 from fun z => by have := (nI_eq (b := 6) (by omega) (by omega)).mp z; omega), if_neg (show ¬ nI i = 7 from fun z => by have := (nI_eq (b := 7) (by omega) (by omega)).mp z; omega), nI_clamp (by omega)]
theorem y_np {b s : Int32} {lo hi : Nat} (h : ygeo b s lo hi) (hlo : 3 ≤ lo) : m_X6_napot b s = m_X10_napot b s ∧ yad (m_X10_napot b s) := by
  obtain ⟨p, m, h1, h2, rfl, rfl, h5⟩ := h
  obtain ⟨k, rfl⟩ : ∃ k, p = k + 3 := ⟨p - 3, by omega⟩
  have e1 : 2 ^ (k + 3) = 8 * 2 ^ k := by rw [Nat.pow_add]; omega
  have e2 : 2 ^ (k + 3) * m = 8 * (2 ^ k * m) := by rw [e1, Nat.mul_assoc]
  have e3 : 2 ^ (k + 1) * m = 2 * (2 ^ k * m) := by rw [Nat.pow_succ', Nat.mul_assoc]
  have e4 : 2 ^ (k + 1) = 2 * 2 ^ k := Nat.pow_succ'
  have hp : 0 < 2 ^ k := Nat.two_pow_pos k
  rw [e1] at h5
  have h6 : 8 * 2 ^ k * m = 8 * (2 ^ k * m) := Nat.mul_assoc _ _ _
  rw [h6] at h5
  rw [e2, e1]
  have a1 : nI (8 * (2 ^ k * m)) / 4 = nI (2 ^ (k + 1) * m) := by
    rw [show nI (8 * (2 ^ k * m)) / 4 = nI (8 * (2 ^ k * m) / 4) from pk_div (d := 4) (by omega) (by omega) (by omega)]
    congr 1
    omega
  have a2 : nI (8 * 2 ^ k) / 8 = nI (2 ^ k) := by
    rw [show nI (8 * 2 ^ k) / 8 = nI (8 * 2 ^ k / 8) from pk_div (d := 8) (by omega) (by omega) (by omega)]
    congr 1
    omega
  have c1 : m_X6_napot (nI (8 * (2 ^ k * m))) (nI (8 * 2 ^ k)) = lN (2 ^ (k + 1) * m + (2 ^ k - 1)) := by
    unfold m_X6_napot
    rw [a1, a2, show nI (2 ^ k) - 1 = nI (2 ^ k - 1) from pk_sub (b := 1) (by omega), y_orI, ← Nat.two_pow_add_eq_or_of_lt (show 2 ^ k - 1 < 2 ^ (k + 1) by omega), nI_l (by omega)]
  have c2 : m_X10_napot (nI (8 * (2 ^ k * m))) (nI (8 * 2 ^ k)) = lN (2 ^ (k + 1) * m + (2 ^ k - 1)) := by
    unfold m_X10_napot
    rw [a2, nI_l (by omega), nI_l (by omega), show lN (8 * (2 ^ k * m)) / 4 = lN (8 * (2 ^ k * m) / 4) from pk_lDiv (b := 4) (by omega) (by omega) (by omega), lN_add, show lN (8 * (2 ^ k * m) / 4 + 2 ^ k) - 1 = lN (8 * (2 ^ k * m) / 4 + 2 ^ k - 1) from lN_sub (b := 1) (by omega)]
    congr 1
    omega
  refine ⟨by rw [c1, c2], ?_⟩
  rw [c2, yad, pk_lT (by omega)]
  omega
theorem y_arr2u (c : eb_St) (n e : Nat) (he : e < 6) : m_X5_arrange_2 (n + 1) c (nI e) = if nI e = c.1 10 6 then (if c.1 (13 + e) 1 = 0 then m_X5_arrange_2 n (m_X6_put c (nI e) 0 0) (nI (e + 1)) else m_X5_arrange_2 n (m_X6_put c (nI e) 31 (m_X6_napot (c.1 (13 + e) 2) (c.1 (13 + e) 3))) (nI (e + 1))) else (if c.1 (13 + e) 1 = 0 then m_X5_arrange_2 n (m_X6_put c (nI e) 0 0) (nI (e + 1)) else m_X5_arrange_2 n (m_X6_put c (nI e) 24 (m_X6_napot (c.1 (13 + e) 2) (c.1 (13 + e) 3))) (nI (e + 1))) := by
  rw [m_X5_arrange_2, if_neg (show ¬ (6 : Int32) ≤ nI e from nI_ge (b := 6) he (by omega)), nI_clamp (by omega), nI_1, show (24 ||| 7 : Int32) = 31 by decide, show (24 ||| 0 : Int32) = 24 by decide]
theorem y_arr2 {c r : eb_St} {e n : Nat} (he : e < 6) (h1 : c.1 (13 + e) 1 = r.1 6 e) (h2 : c.1 (13 + e) 2 = r.1 7 e) (h3 : c.1 (13 + e) 3 = r.1 8 e) (hr : c.1 10 6 = r.1 0 8) (hG : qG r) : m_X5_arrange_2 (n + 1) c (nI e) = m_X5_arrange_2 n (m_X6_put c (nI e) (m_X10_byteOf r (nI e)) (m_X10_addressOf r (nI e))) (nI (e + 1)) ∧ yad (m_X10_addressOf r (nI e)) := by
  rw [y_arr2u c n e he, h1, h2, h3, hr, y_bt he, y_at he]
  by_cases hl : r.1 6 e = 0
  · rw [if_pos hl, if_pos hl, if_pos hl, if_pos hl]
    refine ⟨?_, yad_0⟩
    by_cases hq : nI e = r.1 0 8
    · rw [if_pos hq]
    · rw [if_neg hq]
  · rw [if_neg hl, if_neg hl, if_neg hl, if_neg hl]
    obtain ⟨n1, n2⟩ := y_np (hG e he hl).1 (by omega)
    rw [n1]
    refine ⟨?_, n2⟩
    by_cases hq : nI e = r.1 0 8
    · rw [if_pos hq, if_pos hq]
    · rw [if_neg hq, if_neg hq]
theorem y_arr6u (c : eb_St) (n : Nat) : m_X5_arrange_2 (n + 1) c (nI 6) = if (eb_b (m_X5_isPlace ((c.1 10 6).toInt64))) = 0 then m_X6_put (m_X6_put c 6 0 0) 7 0 0 else (if (c.1 (13 + ((c.1 10 6).toNatClampNeg)) 6) = 0 then m_X6_put (m_X6_put c 6 0 0) 7 24 18014398509481983 else m_X6_put (m_X6_put c 6 27 (m_X6_napot (c.1 (13 + ((c.1 10 6).toNatClampNeg)) 5) (c.1 (13 + ((c.1 10 6).toNatClampNeg)) 6))) 7 24 18014398509481983) := by
  rw [m_X5_arrange_2, if_pos (show (6 : Int32) ≤ nI 6 from by decide)]
theorem y_place {e : Nat} (he : e < 6) : eb_b (m_X5_isPlace (nI e).toInt64) = 1 := by
  rw [nI_l (by omega)]
  unfold m_X5_isPlace
  rw [if_neg (show ¬ lN e < 0 from by rw [show (0 : Int64) = lN 0 from rfl, lN_lt (by omega) (by omega)]; omega), if_neg (show ¬ (6 : Int64) ≤ lN e from by rw [show (6 : Int64) = lN 6 from rfl, lN_le (by omega) (by omega)]; omega)]
  decide
theorem y_arr6 {c r : eb_St} {n : Nat} (hE : ∀ e, e < 6 → c.1 (13 + e) 5 = r.1 10 e ∧ c.1 (13 + e) 6 = r.1 11 e) (hr : c.1 10 6 = r.1 0 8) (hR : qR r) (hG : qG r) : m_X5_arrange_2 (n + 1) c (nI 6) = m_X6_put (m_X6_put c 6 (m_X10_byteOf r (nI 6)) (m_X10_addressOf r (nI 6))) 7 (m_X10_byteOf r (nI 7)) (m_X10_addressOf r (nI 7)) ∧ yad (m_X10_addressOf r (nI 6)) ∧ yad (m_X10_addressOf r (nI 7)) := by
  rw [y_arr6u, hr]
  rcases hR with h | ⟨e, he, h, hl, _⟩
  · have b6 : m_X10_byteOf r (nI 6) = 0 := by rw [y_bt6, h]; exact if_pos (by decide)
    have b7 : m_X10_byteOf r (nI 7) = 0 := by rw [y_bt7, h]; exact if_pos (by decide)
    have a6 : m_X10_addressOf r (nI 6) = 0 := by rw [y_at6, b6]; exact if_pos rfl
    have a7 : m_X10_addressOf r (nI 7) = 0 := by rw [y_at7, h]; exact if_pos (by decide)
    rw [b6, b7, a6, a7, h, if_pos (by decide)]
    exact ⟨rfl, yad_0, yad_0⟩
  · obtain ⟨h5, h6⟩ := hE e he
    have h54 : yad 18014398509481983 := ⟨by decide, by decide⟩
    have b7 : m_X10_byteOf r (nI 7) = 24 := by rw [y_bt7, h]; exact if_neg (nI_pos (by omega))
    have a7 : m_X10_addressOf r (nI 7) = 18014398509481983 := by rw [y_at7, h]; exact if_neg (nI_pos (by omega))
    rw [b7, a7, h, y_place he, if_neg (by decide), nI_clamp (by omega), h5, h6]
    rcases (hG e he hl).2 with ⟨g1, g2⟩ | g
    · have b6 : m_X10_byteOf r (nI 6) = 0 := by rw [y_bt6, h, if_neg (nI_pos (by omega)), nI_clamp (by omega), g1]; exact if_pos (by decide)
      have a6 : m_X10_addressOf r (nI 6) = 0 := by rw [y_at6, b6]; exact if_pos rfl
      rw [b6, a6, if_pos g1]
      exact ⟨rfl, yad_0, h54⟩
    · obtain ⟨n1, n2⟩ := y_np g (by omega)
      obtain ⟨p, m, p1, p2, p3, p4, p5⟩ := g
      have hp8 : 2 ^ 3 ≤ 2 ^ p := Nat.pow_le_pow_right (by decide) p1
      have hnz : ¬ r.1 11 e ≤ 0 := by rw [p3]; exact nI_nle (by omega) (by omega)
      have hnz2 : ¬ r.1 11 e = 0 := by rw [p3]; exact nI_ne0 (by omega) (by omega)
      have b6 : m_X10_byteOf r (nI 6) = 27 := by rw [y_bt6, h, if_neg (nI_pos (by omega)), nI_clamp (by omega), if_neg hnz]
      have a6 : m_X10_addressOf r (nI 6) = m_X10_napot (r.1 10 e) (r.1 11 e) := by rw [y_at6, b6, if_neg (by decide), h, nI_clamp (by omega)]
      rw [b6, a6, if_neg hnz2, n1]
      exact ⟨rfl, n2, h54⟩
theorem y_arrange {c r : eb_St} (hL : qL c) (hE : ∀ e, e < 6 → c.1 (13 + e) 1 = r.1 6 e ∧ c.1 (13 + e) 2 = r.1 7 e ∧ c.1 (13 + e) 3 = r.1 8 e ∧ c.1 (13 + e) 5 = r.1 10 e ∧ c.1 (13 + e) 6 = r.1 11 e) (hr : c.1 10 6 = r.1 0 8) (hR : qR r) (hG : qG r) : qL (m_X5_arrange c) ∧ cG c (m_X5_arrange c) ∧ qT (m_X5_arrange c) r ∧ ∀ i, 8 ≤ i → (m_X5_arrange c).1 4 i = c.1 4 i ∧ (m_X5_arrange c).2 5 i = c.2 5 i := by
  have key : ∀ (d e : Nat) (c1 : eb_St), e + d = 6 → qL c1 → cG c c1 → (∀ i, i < e → c1.1 4 i = m_X10_byteOf r (nI i) ∧ c1.2 5 i = m_X10_addressOf r (nI i)) → (∀ i, 8 ≤ i → c1.1 4 i = c.1 4 i ∧ c1.2 5 i = c.2 5 i) → qL (m_X5_arrange_2 (d + 1) c1 (nI e)) ∧ cG c (m_X5_arrange_2 (d + 1) c1 (nI e)) ∧ qT (m_X5_arrange_2 (d + 1) c1 (nI e)) r ∧ ∀ i, 8 ≤ i → (m_X5_arrange_2 (d + 1) c1 (nI e)).1 4 i = c.1 4 i ∧ (m_X5_arrange_2 (d + 1) c1 (nI e)).2 5 i = c.2 5 i := by
    intro d
    induction d with
    | zero =>
      intro e c1 hd h1 h2 h3 h4
      obtain rfl : e = 6 := by omega
      obtain ⟨u, a6, a7⟩ := y_arr6 (c := c1) (r := r) (n := 0) (fun k hk => by rw [h2.1 _ _ (by omega) (by omega) (by omega), h2.1 _ _ (by omega) (by omega) (by omega)]; exact (hE k hk).2.2.2) (by rw [h2.1 _ _ (by omega) (by omega) (by omega)]; exact hr) hR hG
      rw [u, show (6 : Int32) = nI 6 from rfl, show (7 : Int32) = nI 7 from rfl]
      obtain ⟨p1, p2, p3, p4⟩ := y_put_P h1 (i := 6) (by omega) (m_X10_byteOf r (nI 6)) a6
      obtain ⟨s1, s2, s3, s4⟩ := y_put_P p1 (i := 7) (by omega) (m_X10_byteOf r (nI 7)) a7
      refine ⟨s1, cG_t h2 (cG_t p2 s2), fun i hi => ?_, fun i hi => ?_⟩
      · rw [s3, s4]
        by_cases q7 : i = 7
        · rw [if_pos q7, if_pos q7, q7]; exact ⟨rfl, rfl⟩
        · rw [if_neg q7, if_neg q7, p3, p4]
          by_cases q6 : i = 6
          · rw [if_pos q6, if_pos q6, q6]; exact ⟨rfl, rfl⟩
          · rw [if_neg q6, if_neg q6]; exact h3 i (by omega)
      · rw [s3, s4, if_neg (by omega), if_neg (by omega), p3, p4, if_neg (by omega), if_neg (by omega)]
        exact h4 i hi
    | succ d ih =>
      intro e c1 hd h1 h2 h3 h4
      obtain ⟨e1, e2, e3, e5, e6⟩ := hE e (by omega)
      obtain ⟨u, a6⟩ := y_arr2 (c := c1) (r := r) (e := e) (n := d + 1) (by omega) (by rw [h2.1 _ _ (by omega) (by omega) (by omega)]; exact e1) (by rw [h2.1 _ _ (by omega) (by omega) (by omega)]; exact e2) (by rw [h2.1 _ _ (by omega) (by omega) (by omega)]; exact e3) (by rw [h2.1 _ _ (by omega) (by omega) (by omega)]; exact hr) hG
      rw [u]
      obtain ⟨p1, p2, p3, p4⟩ := y_put_P h1 (i := e) (by omega) (m_X10_byteOf r (nI e)) a6
      refine ih (e + 1) _ (by omega) p1 (cG_t h2 p2) (fun i hi => ?_) (fun i hi => ?_)
      · rw [p3, p4]
        by_cases q : i = e
        · rw [if_pos q, if_pos q, q]; exact ⟨rfl, rfl⟩
        · rw [if_neg q, if_neg q]; exact h3 i (by omega)
      · rw [p3, p4, if_neg (by omega), if_neg (by omega)]; exact h4 i hi
  exact key 6 0 c (by omega) hL (cG_0 c) (fun i hi => absurd hi (by omega)) (fun i _ => ⟨rfl, rfl⟩)
/-- the monitor's entries put anew -/
theorem Q_arr {n t : Nat} {u : Int32} {v : Int64} {c r : eb_St} (h : Q0 n t u v c r) (hf : r.1 0 35 = 0) : Q n t u v (m_X5_arrange c) r := by
  obtain ⟨m, x, e, s, ⟨i, g⟩, p, l⟩ := h
  have hs := s
  obtain ⟨a1, a2, a3, a4⟩ := y_arrange (c := c) (r := r) l (fun k hk => by obtain ⟨b1, b2, b3, b4, b5, b6, _⟩ := e k hk; exact ⟨b1, b2, b3, b5, b6⟩) hs.2.2.2.1 i g
  have c1 : ∀ q b, ¬ q = 4 → ¬ q = 6 → ¬ q = 7 → (m_X5_arrange c).1 q b = c.1 q b := a2.1
  have c2 := a2.2
  refine ⟨⟨qM_fr m (fun b => c2 _ _ (by omega)) (fun b => rfl), qX_fr x (fun q b hq => c2 _ _ (by omega)) (fun b => rfl) (fun q b _ => rfl), qE_fr e (fun q b _ _ => c1 _ _ (by omega) (by omega) (by omega)) (fun q b _ _ => c2 _ _ (by omega)) (fun q b _ _ => rfl) (fun b => rfl) rfl, ?_, ⟨i, g⟩, fun k h0 hk => ?_, a1⟩, a3, fun z => absurd hf z⟩
  · unfold qS
    rw [c1 0 6 (by omega) (by omega) (by omega), c1 0 7 (by omega) (by omega) (by omega), c1 10 6 (by omega) (by omega) (by omega), c1 8 6 (by omega) (by omega) (by omega), c1 10 10 (by omega) (by omega) (by omega), c1 10 11 (by omega) (by omega) (by omega), c1 10 12 (by omega) (by omega) (by omega), c1 10 13 (by omega) (by omega) (by omega), c1 10 9 (by omega) (by omega) (by omega), c1 9 3 (by omega) (by omega) (by omega), c1 8 1 (by omega) (by omega) (by omega), c2 0 8 (by omega), c2 8 2 (by omega), c2 8 3 (by omega), c2 8 4 (by omega), c2 8 5 (by omega), c2 10 0 (by omega), c2 10 7 (by omega), c2 10 8 (by omega)]
    exact s
  · rw [(a4 k h0).1, (a4 k h0).2]; exact p k h0 hk
