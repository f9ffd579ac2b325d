/-! spans and what they let -/
def ypr (r : eb_St) (i : Nat) : Int64 := if i = 0 then 0 else m_X10_addressOf r (nI (i - 1))
def ysp (r : eb_St) (k : Nat) : eb_St := (r.1, fun q b => if q = 15 ∧ b < k then yrl (m_X10_byteOf r (nI b)) (m_X10_addressOf r (nI b)) (ypr r b) else if q = 16 ∧ b < k then yrh (m_X10_byteOf r (nI b)) (m_X10_addressOf r (nI b)) (ypr r b) else r.2 q b)
theorem ysp_s (r : eb_St) (k : Nat) {L H : Int64} (hL : L = yrl (m_X10_byteOf r (nI k)) (m_X10_addressOf r (nI k)) (ypr r k)) (hH : H = yrh (m_X10_byteOf r (nI k)) (m_X10_addressOf r (nI k)) (ypr r k)) : eb_pJ (eb_pJ (ysp r k) 15 k L) 16 k H = ysp r (k + 1) := Prod.ext rfl (funext fun a => funext fun b => by
  show (if a = 16 ∧ b = k then H else if a = 15 ∧ b = k then L else if a = 15 ∧ b < k then yrl (m_X10_byteOf r (nI b)) (m_X10_addressOf r (nI b)) (ypr r b) else if a = 16 ∧ b < k then yrh (m_X10_byteOf r (nI b)) (m_X10_addressOf r (nI b)) (ypr r b) else r.2 a b) = if a = 15 ∧ b < k + 1 then yrl (m_X10_byteOf r (nI b)) (m_X10_addressOf r (nI b)) (ypr r b) else if a = 16 ∧ b < k + 1 then yrh (m_X10_byteOf r (nI b)) (m_X10_addressOf r (nI b)) (ypr r b) else r.2 a b
  by_cases h1 : a = 16 ∧ b = k
  · rw [if_pos h1, if_neg (show ¬ (a = 15 ∧ b < k + 1) by omega), if_pos (show a = 16 ∧ b < k + 1 by omega), hH, h1.2]
  · rw [if_neg h1]
    by_cases h2 : a = 15 ∧ b = k
    · rw [if_pos h2, if_pos (show a = 15 ∧ b < k + 1 by omega), hL, h2.2]
    · rw [if_neg h2]
      by_cases h3 : a = 15 ∧ b < k
      · rw [if_pos h3, if_pos (show a = 15 ∧ b < k + 1 by omega)]
      · rw [if_neg h3, if_neg (show ¬ (a = 15 ∧ b < k + 1) by omega)]
        by_cases h4 : a = 16 ∧ b < k
        · rw [if_pos h4, if_pos (show a = 16 ∧ b < k + 1 by omega)]
        · rw [if_neg h4, if_neg (show ¬ (a = 16 ∧ b < k + 1) by omega)])
theorem y_pJJ (σ : eb_St) (q k : Nat) (v w x : Int64) (hq : ¬ 16 = q) : eb_pJ (eb_pJ (eb_pJ (eb_pJ σ q k x) 16 k x) q k v) 16 k w = eb_pJ (eb_pJ σ q k v) 16 k w := Prod.ext rfl (funext fun a => funext fun b => by
  show (if a = 16 ∧ b = k then w else if a = q ∧ b = k then v else if a = 16 ∧ b = k then x else if a = q ∧ b = k then x else σ.2 a b) = if a = 16 ∧ b = k then w else if a = q ∧ b = k then v else σ.2 a b
  by_cases h1 : a = 16 ∧ b = k
  · simp only [if_pos h1]
  · by_cases h2 : a = q ∧ b = k
    · simp only [if_neg h1, if_pos h2]
    · simp only [if_neg h1, if_neg h2])
theorem y_sp_addr (r : eb_St) (k : Nat) (i : Int32) : m_X10_addressOf (ysp r k) i = m_X10_addressOf r i := y_addr rfl (fun _ => rfl) (fun _ => rfl) (fun _ => rfl) (fun _ => rfl) (fun _ => rfl) (fun _ => rfl) (fun b => by simp [ysp]) i
theorem y_sp_byte (r : eb_St) (k : Nat) (i : Int32) : m_X10_byteOf (ysp r k) i = m_X10_byteOf r i := y_byte rfl (fun _ => rfl) (fun _ => rfl) (fun _ => rfl) i
theorem y_spans_2 (r : eb_St) : ∀ d k, k + d = 16 → m_X10_spans_2 (d + 1) (ysp r k) (nI k) = eb_pI (ysp r 16) 0 35 1 := by
  intro d
  induction d with
  | zero =>
    intro k h
    rw [m_X10_spans_2, if_pos (show (16 : Int32) ≤ nI k from nI_le (a := 16) (by omega) (by omega)), show k = 16 by omega]
  | succ d ih =>
    intro k h
    have hn := ih (k + 1) (by omega)
    rw [m_X10_spans_2, if_neg (show ¬ (16 : Int32) ≤ nI k from nI_ge (b := 16) (by omega) (by omega)), nI_clamp (by omega), nI_1]
    dsimp only
    rw [y_sp_byte, y_sp_addr, show ((m_X10_byteOf r (nI k) >>> ((3 : Int32) &&& 31)) &&& 3) = ykd (m_X10_byteOf r (nI k)) from rfl]
    by_cases k1 : ykd (m_X10_byteOf r (nI k)) = 1
    · rw [if_pos k1]
      by_cases hz : k = 0
      · rw [if_pos (show nI k = 0 by rw [hz]; rfl), y_pJJ _ _ _ _ _ _ (by omega), ysp_s r k (by unfold yrl ypr; rw [if_pos k1, if_pos hz]; decide) (by unfold yrh; rw [if_pos k1])]
        exact hn
      · rw [if_neg (nI_ne0 (by omega) (by omega)), show nI k - 1 = nI (k - 1) from pk_sub (b := 1) (by omega)]
        have ea : m_X10_addressOf (eb_pJ (eb_pJ (ysp r k) 15 k 0) 16 k 0) (nI (k - 1)) = m_X10_addressOf r (nI (k - 1)) := (y_addr (r := ysp r k) rfl (fun _ => rfl) (fun _ => rfl) (fun _ => rfl) (fun _ => rfl) (fun _ => rfl) (fun _ => rfl) (fun b => by simp [eb_pJ]) _).trans (y_sp_addr r k _)
        rw [ea, y_pJJ _ _ _ _ _ _ (by omega), ysp_s r k (by unfold yrl ypr; rw [if_pos k1, if_neg hz]) (by unfold yrh; rw [if_pos k1])]
        exact hn
    · rw [if_neg k1]
      by_cases k2 : ykd (m_X10_byteOf r (nI k)) = 2
      · rw [if_pos k2, y_pJJ _ _ _ _ _ _ (by omega), ysp_s r k (by unfold yrl; rw [if_neg k1, if_pos k2]) (by unfold yrh; rw [if_neg k1, if_pos k2])]
        exact hn
      · rw [if_neg k2]
        by_cases k3 : ykd (m_X10_byteOf r (nI k)) = 3
        · rw [if_pos k3]
          by_cases ha : m_X10_addressOf r (nI k) = 18014398509481983
          · rw [if_pos ha, y_pJJ _ _ _ _ _ _ (by omega), ysp_s r k (by unfold yrl; rw [if_neg k1, if_neg k2, if_pos k3, if_pos ha]) (by unfold yrh; rw [if_neg k1, if_neg k2, if_pos k3, if_pos ha])]
            exact hn
          · rw [if_neg ha, y_pJJ _ _ _ _ _ _ (by omega), ysp_s r k (by unfold yrl; rw [if_neg k1, if_neg k2, if_pos k3, if_neg ha]) (by
              unfold yrh; rw [if_neg k1, if_neg k2, if_pos k3, if_neg ha]
              congr 1
              simp [eb_pJ])]
            exact hn
        · rw [if_neg k3, ysp_s r k (by unfold yrl; rw [if_neg k1, if_neg k2, if_neg k3]) (by unfold yrh; rw [if_neg k1, if_neg k2, if_neg k3])]
          exact hn
theorem y_spans (r : eb_St) : m_X10_spans r = eb_pI (ysp r 16) 0 35 1 := by
  have z : ysp r 0 = r := Prod.ext rfl (funext fun a => funext fun b => by
    simp [ysp])
  have h := y_spans_2 r 16 0 (by omega)
  rw [z] at h
  exact h
/-- the reference's spans have changed alone -/
def rH (r r' : eb_St) : Prop := (∀ q b, ¬ (q = 0 ∧ b = 35) → r'.1 q b = r.1 q b) ∧ ∀ q b, ¬ q = 15 → ¬ q = 16 → r'.2 q b = r.2 q b
theorem rH_0 (r : eb_St) : rH r r := ⟨fun _ _ _ => rfl, fun _ _ _ _ => rfl⟩
theorem rH_t {a b c : eb_St} (h : rH a b) (h2 : rH b c) : rH a c := ⟨fun q k x => (h2.1 q k x).trans (h.1 q k x), fun q k x y => (h2.2 q k x y).trans (h.2 q k x y)⟩
theorem rH_spans (r : eb_St) : rH r (m_X10_spans r) := by
  rw [y_spans]
  refine ⟨fun q b h => by simp [eb_pI, ysp]; intro z y; exact absurd ⟨z, y⟩ h, fun q b h h2 => ?_⟩
  simp [eb_pI, ysp, h, h2]
theorem Q_B {n t : Nat} {u : Int32} {v : Int64} {c r : eb_St} (h : Q n t u v c r) {i : Nat} (hi : i < 16) : c.1 4 i = m_X10_byteOf r (nI i) ∧ c.2 5 i = m_X10_addressOf r (nI i) := by
  obtain ⟨⟨m, x, e, s, ⟨i', g⟩, p, l⟩, T, F⟩ := h
  rcases Nat.lt_or_ge i 8 with h8 | h8
  · exact T i h8
  · rw [y_bt8 h8 hi, y_at8 h8 hi]; exact p i h8 hi
theorem Q_spans {n t : Nat} {u : Int32} {v : Int64} {c r : eb_St} (h : Q n t u v c r) : Q n t u v c (m_X10_spans r) := by
  have hb := fun i (hi : i < 16) => Q_B h hi
  have hH := rH_spans r
  obtain ⟨⟨m, x, e, s, ⟨i, g⟩, p, l⟩, T, F⟩ := h
  have r1 := hH.1
  have r2 := hH.2
  refine ⟨⟨qM_fr m (fun b => rfl) (fun b => r1 _ _ (by omega)), qX_fr x (fun q b _ => rfl) (fun b => r1 _ _ (by omega)) (fun q b _ => r2 _ _ (by omega) (by omega)), qE_fr e (fun q b _ _ => rfl) (fun q b _ _ => rfl) (fun q b _ _ => r1 _ _ (by omega)) (fun b => r2 _ _ (by omega) (by omega)) (r2 _ _ (by omega) (by omega)), ?_, ⟨?_, qG_fr g (fun q b _ _ => r1 _ _ (by omega))⟩, qP_fr p (fun b => rfl) (fun b => rfl) (fun b => r1 _ _ (by omega)) (fun b => r2 _ _ (by omega) (by omega)), l⟩, qT_fr T (fun b => rfl) (fun b => rfl) (r1 _ _ (by omega)) (fun q b _ => r1 _ _ (by omega)) (fun b => r2 _ _ (by omega) (by omega)), fun _ k hk => ?_⟩
  · unfold qS
    rw [r1 0 5 (by omega), r1 0 6 (by omega), r1 0 8 (by omega), r1 0 9 (by omega), r1 0 10 (by omega), r1 0 11 (by omega), r1 0 12 (by omega), r1 0 13 (by omega), r1 0 14 (by omega), r1 0 4 (by omega), r1 0 32 (by omega), r2 0 7 (by omega) (by omega), r2 0 15 (by omega) (by omega), r2 0 16 (by omega) (by omega), r2 0 17 (by omega) (by omega), r2 0 18 (by omega) (by omega), r2 0 19 (by omega) (by omega), r2 0 0 (by omega) (by omega), r2 0 31 (by omega) (by omega)]
    exact s
  · unfold qR
    rw [r1 0 8 (by omega), r1 0 4 (by omega)]
    rcases i with i | ⟨k, hk, i⟩
    · exact Or.inl i
    · exact Or.inr ⟨k, hk, by rw [r1 6 k (by omega)]; exact i⟩
  · have hl := (l k hk).2
    have ep : ypc c k = ypr r k := by
      unfold ypc ypr
      by_cases hz : k = 0
      · rw [if_pos hz, if_pos hz]
      · rw [if_neg hz, if_neg hz, (hb (k - 1) (by omega)).2]
    rw [(hb k hk).1, (hb k hk).2, ep] at hl
    rw [y_spans]
    have e15 : (eb_pI (ysp r 16) 0 35 1).2 15 k = yrl (m_X10_byteOf r (nI k)) (m_X10_addressOf r (nI k)) (ypr r k) := if_pos ⟨rfl, hk⟩
    have e16 : (eb_pI (ysp r 16) 0 35 1).2 16 k = yrh (m_X10_byteOf r (nI k)) (m_X10_addressOf r (nI k)) (ypr r k) := by simp [eb_pI, ysp, hk]
    rw [e15, e16]
    exact hl
theorem y_dec {c r : eb_St} (hfit : ∀ i, i < 16 → yfit (c.1 6 i) (c.1 7 i) (r.2 15 i) (r.2 16 i)) (hB : ∀ i, i < 16 → c.1 4 i = m_X10_byteOf r (nI i)) {a z : Nat} (ha : a + z ≤ 65536) (hz : 1 ≤ z) (need mach : Int32) : ∀ d i, i + d = 16 →
    (m_X6_decider_2 (d + 1) c (nI a) (nI (a + z)) (nI i) = -1 ∧ m_X10_lets_14 (d + 1) r (nI a) (nI z) need mach (nI i) = (decide (¬ mach = 0), r)) ∨
    ∃ j, j < 16 ∧ m_X6_decider_2 (d + 1) c (nI a) (nI (a + z)) (nI i) = nI j ∧ (c.1 6 j).toInt < (a + z : Nat) ∧ (a : Int) < (c.1 7 j).toInt ∧ m_X10_lets_14 (d + 1) r (nI a) (nI z) need mach (nI i) = ((if nI a < c.1 6 j then false else if nI (a + z) ≤ c.1 7 j then (if mach = 0 then (if (c.1 4 j &&& need) = need then true else false) else (if (c.1 4 j &&& 128) = 0 then true else (if (c.1 4 j &&& need) = need then true else false))) else false), r) := by
  intro d
  induction d with
  | zero =>
    intro i h
    refine Or.inl ⟨?_, ?_⟩
    · rw [m_X6_decider_2, if_pos (show (16 : Int32) ≤ nI i from nI_le (a := 16) (by omega) (by omega))]
    · rw [m_X10_lets_14, if_pos (show (16 : Int32) ≤ nI i from nI_le (a := 16) (by omega) (by omega))]
  | succ d ih =>
    intro i h
    have hn := ih (i + 1) (by omega)
    rw [m_X6_decider_2, m_X10_lets_14, if_neg (show ¬ (16 : Int32) ≤ nI i from nI_ge (b := 16) (by omega) (by omega)), if_neg (show ¬ (16 : Int32) ≤ nI i from nI_ge (b := 16) (by omega) (by omega)), nI_clamp (by omega), nI_1, nI_add, nI_l (by omega), nI_l (by omega)]
    dsimp only
    have f := hfit i (by omega)
    have ia : (nI a).toInt = a := nI_toInt (by omega)
    have iz : (nI (a + z)).toInt = (a + z : Nat) := nI_toInt (by omega)
    have la : (lN a).toInt = a := pk_lT (by omega)
    have lz : (lN (a + z)).toInt = (a + z : Nat) := pk_lT (by omega)
    by_cases c1 : c.1 7 i ≤ nI a
    · rw [if_pos c1]
      rw [Int32.le_iff_toInt_le, ia] at c1
      by_cases q1 : r.2 16 i ≤ r.2 15 i
      · rw [if_pos q1]; exact hn
      · rw [if_neg q1]
        by_cases q2 : lN (a + z) ≤ r.2 15 i
        · rw [if_pos q2]; exact hn
        · rw [if_neg q2]
          by_cases q3 : lN a < r.2 16 i
          · exfalso
            rw [Int64.le_iff_toInt_le] at q1
            rw [Int64.le_iff_toInt_le, lz] at q2
            rw [Int64.lt_iff_toInt_lt, la] at q3
            unfold yfit at f
            omega
          · rw [if_neg q3]; exact hn
    · rw [if_neg c1]
      rw [Int32.le_iff_toInt_le, ia] at c1
      by_cases c2 : nI (a + z) ≤ c.1 6 i
      · rw [if_pos c2]
        rw [Int32.le_iff_toInt_le, iz] at c2
        by_cases q1 : r.2 16 i ≤ r.2 15 i
        · rw [if_pos q1]; exact hn
        · rw [if_neg q1]
          by_cases q2 : lN (a + z) ≤ r.2 15 i
          · rw [if_pos q2]; exact hn
          · exfalso
            rw [Int64.le_iff_toInt_le] at q1
            rw [Int64.le_iff_toInt_le, lz] at q2
            unfold yfit at f
            omega
      · rw [if_neg c2]
        rw [Int32.le_iff_toInt_le, iz] at c2
        have g : 0 ≤ (r.2 15 i).toInt ∧ (r.2 15 i).toInt < (r.2 16 i).toInt ∧ (c.1 6 i).toInt = (r.2 15 i).toInt ∧ (r.2 15 i).toInt < (a + z : Nat) ∧ (a : Int) < (r.2 16 i).toInt ∧ (((a + z : Nat) : Int) ≤ (r.2 16 i).toInt ↔ ((a + z : Nat) : Int) ≤ (c.1 7 i).toInt) := by
          unfold yfit at f
          omega
        refine Or.inr ⟨i, by omega, rfl, by omega, by omega, ?_⟩
        rw [if_neg (show ¬ r.2 16 i ≤ r.2 15 i by rw [Int64.le_iff_toInt_le]; omega), if_neg (show ¬ lN (a + z) ≤ r.2 15 i by rw [Int64.le_iff_toInt_le, lz]; omega), if_pos (show lN a < r.2 16 i by rw [Int64.lt_iff_toInt_lt, la]; omega), ← hB i (by omega)]
        by_cases c3 : nI a < c.1 6 i
        · rw [if_pos c3]
          rw [Int32.lt_iff_toInt_lt, ia] at c3
          rw [if_pos (show lN a < r.2 15 i by rw [Int64.lt_iff_toInt_lt, la]; omega)]
        · rw [if_neg c3]
          rw [Int32.lt_iff_toInt_lt, ia] at c3
          rw [if_neg (show ¬ lN a < r.2 15 i by rw [Int64.lt_iff_toInt_lt, la]; omega)]
          by_cases c4 : nI (a + z) ≤ c.1 7 i
          · rw [if_pos c4]
            rw [Int32.le_iff_toInt_le, iz] at c4
            rw [if_pos (show lN (a + z) ≤ r.2 16 i by rw [Int64.le_iff_toInt_le, lz]; omega)]
            unfold m_X10_lets_122
            by_cases m0 : mach = 0
            · rw [if_pos m0, if_pos m0]
              by_cases b0 : (c.1 4 i &&& need) = need
              · rw [if_pos b0, if_pos b0]
              · rw [if_neg b0, if_neg b0]
            · rw [if_neg m0, if_neg m0]
              by_cases b1 : (c.1 4 i &&& 128) = 0
              · rw [if_pos b1, if_pos b1]
              · rw [if_neg b1, if_neg b1]
                by_cases b0 : (c.1 4 i &&& need) = need
                · rw [if_pos b0, if_pos b0]
                · rw [if_neg b0, if_neg b0]
          · rw [if_neg c4]
            rw [Int32.le_iff_toInt_le, iz] at c4
            rw [if_neg (show ¬ lN (a + z) ≤ r.2 16 i by rw [Int64.le_iff_toInt_le, lz]; omega)]
/-- the reference with fresh spans -/
theorem Q_fresh {n t : Nat} {u : Int32} {v : Int64} {c r : eb_St} (h : Q n t u v c r) (a z need mach : Int32) : ∃ r', m_X10_lets r a z need mach = m_X10_lets_14 17 r' a z need mach 0 ∧ Q n t u v c r' ∧ rH r r' ∧ ¬ r'.1 0 35 = 0 := by
  unfold m_X10_lets
  by_cases hf : r.1 0 35 = 0
  · rw [if_pos hf]
    refine ⟨m_X10_spans r, rfl, Q_spans h, rH_spans r, ?_⟩
    rw [y_spans, eb_rdI]
    decide
  · rw [if_neg hf]
    exact ⟨r, rfl, h, rH_0 r, hf⟩
theorem y_bit1 (b : Int32) {need : Int32} (hn : need = 1 ∨ need = 2 ∨ need = 4) : (b &&& need) = 0 ↔ ¬ (b &&& need) = need := by
  have key : ∀ k, k < 32 → ((b &&& nI (2 ^ k)) = 0 ∨ (b &&& nI (2 ^ k)) = nI (2 ^ k)) := by
    intro k hk
    by_cases hb : yb b k = true
    · refine Or.inr (yb_ext fun i hi => ?_)
      rw [yb_and, yb_nI _ hi, Nat.testBit_two_pow]
      by_cases q : k = i
      · rw [← q, hb]; simp
      · simp [q]
    · refine Or.inl (yb_ext fun i hi => ?_)
      rw [yb_and, yb_nI _ hi, Nat.testBit_two_pow, yb_0]
      by_cases q : k = i
      · rw [← q]; simp [hb]
      · simp [q]
  rcases hn with rfl | rfl | rfl
  · rcases key 0 (by omega) with k | k
    · rw [show b &&& 1 = 0 from k]; decide
    · rw [show b &&& 1 = 1 from k]; decide
  · rcases key 1 (by omega) with k | k
    · rw [show b &&& 2 = 0 from k]; decide
    · rw [show b &&& 2 = 2 from k]; decide
  · rcases key 2 (by omega) with k | k
    · rw [show b &&& 4 = 0 from k]; decide
    · rw [show b &&& 4 = 4 from k]; decide
theorem Q_lets {n t : Nat} {u : Int32} {v : Int64} {c r : eb_St} (h : Q n t u v c r) {a z : Nat} (ha : a + z ≤ 65536) (hz : 1 ≤ z) {need : Int32} (hn : need = 1 ∨ need = 2 ∨ need = 4) : (m_X10_lets r (nI a) (nI z) need (r.1 0 4)).1 = m_X6_lets c (c.1 9 3) (lN a) (nI z) need ∧ Q n t u v c (m_X10_lets r (nI a) (nI z) need (r.1 0 4)).2 ∧ rH r (m_X10_lets r (nI a) (nI z) need (r.1 0 4)).2 := by
  obtain ⟨r', e, hQ, hH, hf⟩ := Q_fresh h (nI a) (nI z) need (r.1 0 4)
  rw [e]
  have hmode : c.1 9 3 = (if r.1 0 4 = 0 then 0 else 3) := by obtain ⟨⟨_, _, _, s, _⟩, _⟩ := h; exact s.2.2.2.2.2.2.2.2.2.2.1
  have u : m_X6_lets c (c.1 9 3) (lN a) (nI z) need = (if m_X6_decider_2 17 c (nI a) (nI (a + z)) 0 = (-1) then (if c.1 9 3 = 3 then true else false) else (if nI a < (c.1 6 (m_X6_decider_2 17 c (nI a) (nI (a + z)) 0).toNatClampNeg) then false else (if nI (a + z) ≤ (c.1 7 (m_X6_decider_2 17 c (nI a) (nI (a + z)) 0).toNatClampNeg) then (if c.1 9 3 = 3 then (if ((c.1 4 (m_X6_decider_2 17 c (nI a) (nI (a + z)) 0).toNatClampNeg) &&& 128) = 0 then true else m_X6_lets_101 c need (m_X6_decider_2 17 c (nI a) (nI (a + z)) 0)) else m_X6_lets_101 c need (m_X6_decider_2 17 c (nI a) (nI (a + z)) 0)) else false))) := by
    unfold m_X6_lets m_X6_decider
    rw [if_neg (show ¬ lN a < 0 from by rw [show (0 : Int64) = lN 0 from rfl, lN_lt (by omega) (by omega)]; omega), show (65536 : Int32) - nI z = nI (65536 - z) from pk_sub (a := 65536) (by omega), nI_l (by omega), if_pos (show lN a ≤ lN (65536 - z) from by rw [lN_le (by omega) (by omega)]; omega), lN_i]
    dsimp only
    rw [nI_add]
  rw [u]
  rcases y_dec (c := c) (r := r') (hQ.2.2 hf) (fun i hi => (Q_B hQ hi).1) ha hz need (r.1 0 4) 16 0 (by omega) with ⟨d1, d2⟩ | ⟨j, hj, d1, _, _, d2⟩
  · rw [show m_X6_decider_2 17 c (nI a) (nI (a + z)) 0 = -1 from d1, show m_X10_lets_14 17 r' (nI a) (nI z) need (r.1 0 4) 0 = _ from d2, if_pos rfl, hmode]
    refine ⟨?_, hQ, hH⟩
    by_cases m0 : r.1 0 4 = 0
    · rw [if_pos m0]; simp [m0]
    · rw [if_neg m0]; simp [m0]
  · rw [show m_X6_decider_2 17 c (nI a) (nI (a + z)) 0 = nI j from d1, show m_X10_lets_14 17 r' (nI a) (nI z) need (r.1 0 4) 0 = _ from d2, if_neg (show ¬ nI j = -1 from fun q => absurd (nI_pos (n := j) (by omega)) (by rw [q]; decide)), nI_clamp (by omega), hmode]
    refine ⟨?_, hQ, hH⟩
    unfold m_X6_lets_101
    rw [nI_clamp (by omega)]
    have hb := y_bit1 (c.1 4 j) hn
    by_cases c3 : nI a < c.1 6 j
    · rw [if_pos c3, if_pos c3]
    · rw [if_neg c3, if_neg c3]
      by_cases c4 : nI (a + z) ≤ c.1 7 j
      · rw [if_pos c4, if_pos c4]
        have hbb : (if (c.1 4 j &&& need) = need then true else false) = (if (c.1 4 j &&& need) = 0 then false else true) := by
          by_cases b0 : (c.1 4 j &&& need) = 0
          · rw [if_pos b0, if_neg (hb.mp b0)]
          · rw [if_neg b0, if_pos (Classical.byContradiction fun q => b0 (hb.mpr q))]
        rw [hbb]
        by_cases m0 : r.1 0 4 = 0
        · rw [if_pos m0, if_pos m0, if_neg (show ¬ (0 : Int32) = 3 by decide)]
        · rw [if_neg m0, if_neg m0, if_pos rfl]
      · rw [if_neg c4, if_neg c4]
