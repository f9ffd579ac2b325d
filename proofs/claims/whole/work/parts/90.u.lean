/-! measures -/
def yw (g : Nat → Int64) (d : Nat) (k : Nat) (v : Int64) : Int64 := (List.range' k d).foldl (fun a i => m_X5_mixed a (g i)) v
theorem yw_0 (g : Nat → Int64) (k : Nat) (v : Int64) : yw g 0 k v = v := by
  unfold yw
  rw [List.range'_zero, List.foldl_nil]
theorem yw_1 (g : Nat → Int64) (d k : Nat) (v : Int64) : yw g (d + 1) k v = yw g d (k + 1) (m_X5_mixed v (g k)) := by
  unfold yw
  rw [List.range'_succ, List.foldl_cons]
theorem yw_c {g g' : Nat → Int64} : ∀ (d k : Nat) (v : Int64), (∀ i, k ≤ i → i < k + d → g i = g' i) → yw g d k v = yw g' d k v := by
  intro d
  induction d with
  | zero => intro k v _; rw [yw_0, yw_0]
  | succ d ih =>
    intro k v h
    have e := h k (by omega) (by omega)
    rw [yw_1, yw_1, e]
    exact ih (k + 1) (m_X5_mixed v (g' k)) (fun i h1 h2 => h i (by omega) (by omega))
theorem yw_s (g : Nat → Int64) (b : Nat) : ∀ (a k : Nat) (v : Int64), yw g (a + b) k v = yw g b (k + a) (yw g a k v) := by
  intro a
  induction a with
  | zero => intro k v; rw [Nat.zero_add, yw_0, Nat.add_zero]
  | succ a ih =>
    intro k v
    have e : a + 1 + b = (a + b) + 1 := by omega
    have e2 : k + 1 + a = k + (a + 1) := by omega
    rw [e, yw_1, yw_1, ih, e2]
theorem yw_t (g : Nat → Int64) (s : Nat) : ∀ (d k : Nat) (v : Int64), yw g d (s + k) v = yw (fun i => g (s + i)) d k v := by
  intro d
  induction d with
  | zero => intro k v; rw [yw_0, yw_0]
  | succ d ih =>
    intro k v
    have e : s + k + 1 = s + (k + 1) := by omega
    rw [yw_1, yw_1, e, ih]
theorem y_mx (num : Int64) : ∀ (d k : Nat) (v : Int64), k + d = 8 → m_X5_mixedNumber_6 (d + 1) num v (nI k) = yw (fun i => (eb_lushr num (8 * nI i)) &&& 255) d k v := by
  intro d
  induction d with
  | zero => intro k v h; rw [m_X5_mixedNumber_6, if_pos (show (8 : Int32) ≤ nI k from nI_le (a := 8) (by omega) (by omega)), yw_0]
  | succ d ih =>
    intro k v h
    rw [m_X5_mixedNumber_6, if_neg (show ¬ (8 : Int32) ≤ nI k from nI_ge (b := 8) (by omega) (by omega)), nI_1, yw_1]
    dsimp only
    rw [ih (k + 1) _ (by omega)]
theorem y_em (a b : Int64) : (a ^^^ b) * 1099511628211 = m_X5_mixed a b := rfl
theorem y_mor {z : eb_St} {X : Int32} {m : Nat} (hm : m < 2 ^ 31) : ∀ (d k : Nat) (v : Int64), k + d = m → m_X5_measureOfRequest_26 (d + 1) z v X (nI m) (nI k) = m_X5_mixedNumber (m_X5_mixedNumber (m_X5_mixedNumber (yw (fun i => m_X4_load z (X + nI i) 1) d k v) (z.2 11 1)) (z.2 11 4)) (z.2 11 6) := by
  intro d
  induction d with
  | zero => intro k v h; rw [m_X5_measureOfRequest_26, if_pos (nI_le (by omega) (by omega)), yw_0]
  | succ d ih =>
    intro k v h
    rw [m_X5_measureOfRequest_26, if_neg (nI_ge (by omega) (by omega)), nI_1, yw_1]
    dsimp only
    rw [ih (k + 1) _ (by omega)]
theorem y_m7 {r : eb_St} {E : Int32} {m : Nat} (hm : m < 2 ^ 31) : ∀ (d k : Nat) (v : Int64), k + d = m → m_X10_measured_7 (d + 1) r E (nI m) v (nI k) = m_X10_measured_41 25 r E (yw (fun i => ((r.1 17 i) &&& 255).toInt64) d k v) 0 := by
  intro d
  induction d with
  | zero => intro k v h; rw [m_X10_measured_7, if_pos (nI_le (by omega) (by omega)), yw_0]
  | succ d ih =>
    intro k v h
    rw [m_X10_measured_7, if_neg (nI_ge (by omega) (by omega)), nI_1, nI_clamp (by omega), yw_1]
    dsimp only
    rw [y_em, ih (k + 1) _ (by omega)]
def y3b (x : Int32) (i : Nat) : Int64 := if i < 4 then ((x >>> ((8 * nI i) &&& 31)) &&& 255).toInt64 else 0
def y24 (r : eb_St) (e q : Nat) : Int64 := y3b (if q < 8 then r.1 8 e else if q < 16 then r.1 9 e else r.1 11 e) (q % 8)
theorem y_m41 {r : eb_St} {e : Nat} (he : e < 6) : ∀ (d q : Nat) (v : Int64), q + d = 24 → m_X10_measured_41 (d + 1) r (nI e) v (nI q) = eb_pJ (eb_pJ r 14 e (yw (y24 r e) d q v)) 3 e ((r.1 7 e).toInt64 + (r.1 9 e).toInt64) := by
  intro d
  induction d with
  | zero =>
    intro q v h
    rw [m_X10_measured_41, if_pos (show (24 : Int32) ≤ nI q from nI_le (a := 24) (by omega) (by omega)), nI_clamp (by omega), yw_0]
    rfl
  | succ d ih =>
    intro q v h
    have hn := ih (q + 1) (m_X5_mixed v (y24 r e q)) (by omega)
    rw [yw_1]
    rw [← hn, m_X10_measured_41, if_neg (show ¬ (24 : Int32) ≤ nI q from nI_ge (b := 24) (by omega) (by omega)), nI_clamp (by omega), nI_1, show nI q - nI q / 8 * 8 = nI (q % 8) from pk_rem (d := 8) (by omega) (by omega) (by omega)]
    dsimp only
    simp only [y_em]
    have l8 : ((8 : Int32) ≤ nI q) ↔ 8 ≤ q := nI_leI (a := 8) (by omega) (by omega)
    have l16 : ((16 : Int32) ≤ nI q) ↔ 16 ≤ q := nI_leI (a := 16) (by omega) (by omega)
    have l4 : ((4 : Int32) ≤ nI (q % 8)) ↔ 4 ≤ q % 8 := nI_leI (a := 4) (by omega) (by omega)
    unfold y24 y3b
    by_cases c4 : 4 ≤ q % 8
    · simp only [if_pos (l4.mpr c4), if_neg (show ¬ q % 8 < 4 by omega), show (0 : Int32).toInt64 = 0 from rfl, ite_self]
    · simp only [if_neg (fun z => c4 (l4.mp z)), if_pos (show q % 8 < 4 by omega)]
      by_cases c8 : 8 ≤ q
      · rw [if_pos (l8.mpr c8)]
        by_cases c16 : 16 ≤ q
        · rw [if_pos (l16.mpr c16), if_neg (show ¬ q < 8 by omega), if_neg (show ¬ q < 16 by omega)]
        · rw [if_neg (fun z => c16 (l16.mp z)), if_neg (show ¬ q < 8 by omega), if_pos (show q < 16 by omega)]
      · rw [if_neg (fun z => c8 (l8.mp z)), if_pos (show q < 8 by omega)]
theorem y_3b {x i : Nat} (hx : x < 2 ^ 31) (hi : i < 8) : (eb_lushr (lN x) (8 * nI i)) &&& 255 = y3b (nI x) i := by
  unfold y3b
  rw [show (8 : Int32) * nI i = nI (8 * i) from pk_mul 8 i]
  apply yl_ext
  intro j hj
  have h255 : yl 255 j = decide (j < 8) := (by decide +kernel : ∀ j, j < 64 → yl 255 j = decide (j < 8)) j hj
  rw [yl_and, h255, yl_ushr _ (by omega)]
  by_cases h8 : j < 8
  · rw [yl_lN _ (by omega), decide_eq_true h8, Bool.and_true]
    by_cases h4 : i < 4
    · rw [if_pos h4, yl_b255 _ hj, decide_eq_true h8, Bool.true_and, yb_sshr _ (by omega) _ (by omega), if_pos (by omega), yb_nI _ (by omega)]
    · rw [if_neg h4, yl_0]
      apply Nat.testBit_lt_two_pow
      exact Nat.lt_of_lt_of_le hx (Nat.pow_le_pow_right (by decide) (by omega))
  · rw [decide_eq_false h8, Bool.and_false]
    by_cases h4 : i < 4
    · rw [if_pos h4, yl_b255 _ hj, decide_eq_false h8, Bool.false_and]
    · rw [if_neg h4, yl_0]
theorem y_mix3 {r : eb_St} {e : Nat} {n f s : Nat} (hn : n < 2 ^ 31) (hf : f < 2 ^ 31) (hs : s < 2 ^ 31) (h8 : r.1 8 e = nI n) (h9 : r.1 9 e = nI f) (h11 : r.1 11 e = nI s) (v : Int64) : m_X5_mixedNumber (m_X5_mixedNumber (m_X5_mixedNumber v (lN n)) (lN f)) (lN s) = yw (y24 r e) 24 0 v := by
  have k : ∀ (x : Nat) (w : Int64), x < 2 ^ 31 → m_X5_mixedNumber w (lN x) = yw (y3b (nI x)) 8 0 w := fun x w hx => by
    show m_X5_mixedNumber_6 9 (lN x) w (nI 0) = _
    rw [y_mx (lN x) 8 0 w (by omega)]
    exact yw_c 8 0 w (fun i _ hi => y_3b hx (by omega))
  rw [k n _ hn, k f _ hf, k s _ hs, show (24 : Nat) = 8 + 16 from rfl, yw_s, show (16 : Nat) = 8 + 8 from rfl, yw_s]
  have e1 :  yw (y24 r e) 8 0 v = yw (y3b (nI n)) 8 0 v := yw_c 8 0 v (fun i _ hi => by unfold y24; rw [if_pos (by omega), h8, Nat.mod_eq_of_lt (by omega)])
  have e2 : ∀ w,  yw (y24 r e) 8 (0 + 8) w = yw (y3b (nI f)) 8 0 w := fun w => by
    rw [show 0 + 8 = 8 + 0 from rfl, yw_t]
    exact yw_c 8 0 w (fun i _ hi => by
      show y24 r e (8 + i) = _
      unfold y24; rw [if_neg (by omega), if_pos (by omega), h9, show (8 + i) % 8 = i by omega])
  have e3 : ∀ w,  yw (y24 r e) 8 (0 + 8 + 8) w = yw (y3b (nI s)) 8 0 w := fun w => by
    rw [show 0 + 8 + 8 = 16 + 0 from rfl, yw_t]
    exact yw_c 8 0 w (fun i _ hi => by
      show y24 r e (16 + i) = _
      unfold y24; rw [if_neg (by omega), if_neg (by omega), h11, show (16 + i) % 8 = i by omega])
  rw [e1, e2, e3]
