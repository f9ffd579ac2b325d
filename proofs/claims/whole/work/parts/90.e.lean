/-! the relation of the two sides -/
def ykey (s m : Int64) : Int64 := (fun (x1 : Int64) => (fun (x2 : Int64) => (fun (x3 : Int64) => x3 ^^^ (eb_lushr x3 33)) ((x2 ^^^ (eb_lushr x2 33)) * (-4265267296055464877))) ((x1 ^^^ (eb_lushr x1 33)) * (-49064778989728563))) (s ^^^ m)
theorem y_keyC (c : eb_St) (m : Int64) : m_X5_keyOf c m = ykey (c.2 10 0) m := rfl
theorem y_keyR (r : eb_St) (e : Int32) : m_X10_key r e = ykey (r.2 0 0) (r.2 14 e.toNatClampNeg) := rfl
def ygeo (b s : Int32) (lo hi : Nat) : Prop := ∃ p m : Nat, lo ≤ p ∧ p ≤ hi ∧ s = nI (2 ^ p) ∧ b = nI (2 ^ p * m) ∧ 2 ^ p * m + 2 ^ p ≤ 65536
def qX (v : Int64) (c r : eb_St) : Prop := ∀ s, s < 7 → (s = 6 ∨ ¬ r.1 6 s = 0) → (∀ j, j < 32 → c.2 (26 + s) j = r.2 2 (32 * s + j)) ∧ r.2 3 s = c.2 (19 + s) 1 + (if s = 6 then v else 0)
def qE (t : Nat) (c r : eb_St) : Prop := ∀ e, e < 6 → c.1 (13 + e) 1 = r.1 6 e ∧ c.1 (13 + e) 2 = r.1 7 e ∧ c.1 (13 + e) 3 = r.1 8 e ∧ c.1 (13 + e) 4 = r.1 9 e ∧ c.1 (13 + e) 5 = r.1 10 e ∧ c.1 (13 + e) 6 = r.1 11 e ∧ c.1 (13 + e) 7 = r.1 12 e ∧ r.1 13 e = c.1 (13 + e) 8 + (if e = t then 1 else 0) ∧ c.2 (13 + e) 9 = r.2 14 e ∧ (¬ r.1 6 e = 0 → c.2 (13 + e) 10 = ykey (r.2 0 0) (r.2 14 e))
def qS (n t : Nat) (u : Int32) (c r : eb_St) : Prop :=
  c.1 0 6 = r.1 0 5 ∧ c.1 0 7 = r.1 0 6 ∧ c.2 0 8 = r.2 0 7 ∧ c.1 10 6 = r.1 0 8 ∧ c.1 8 6 = r.1 0 9 + u ∧ c.1 10 10 = r.1 0 10 ∧ c.1 10 11 = r.1 0 11 ∧ c.1 10 12 = r.1 0 12 ∧ c.1 10 13 = r.1 0 13 ∧ c.1 10 9 = r.1 0 14 ∧ c.1 9 3 = (if r.1 0 4 = 0 then 0 else 3) ∧ c.1 8 1 = (r.2 0 15).toInt32 ∧ (r.2 0 15 = 0 ∨ r.2 0 15 = 3) ∧ c.2 8 2 = r.2 0 16 ∧ c.2 8 3 = r.2 0 17 ∧ c.2 8 4 = r.2 0 18 ∧ c.2 8 5 = r.2 0 19 ∧ c.2 10 0 = r.2 0 0 ∧ c.2 10 7 = r.2 0 31 ∧ (r.1 0 32).toInt64 = c.2 10 8 + (if t < 6 then 1 else 0) ∧ (if t < 6 then (1 : Int) else 0) ≤ (r.1 0 32).toInt ∧ (r.1 0 32).toInt ≤ n
def qR (r : eb_St) : Prop := r.1 0 8 = -1 ∨ ∃ e, e < 6 ∧ r.1 0 8 = nI e ∧ ¬ r.1 6 e = 0 ∧ r.1 0 4 = 0
def qG (r : eb_St) : Prop := ∀ e, e < 6 → ¬ r.1 6 e = 0 → ygeo (r.1 7 e) (r.1 8 e) 5 14 ∧ ((r.1 11 e = 0 ∧ r.1 10 e = 0) ∨ ygeo (r.1 10 e) (r.1 11 e) 3 12)
def qP (c r : eb_St) : Prop := ∀ i, 8 ≤ i → i < 16 → c.1 4 i = r.1 4 i ∧ c.2 5 i = r.2 5 i
def qL (c : eb_St) : Prop := ∀ i, i < 16 → yad (c.2 5 i) ∧ yfit (c.1 6 i) (c.1 7 i) (yrl (c.1 4 i) (c.2 5 i) (ypc c i)) (yrh (c.1 4 i) (c.2 5 i) (ypc c i))
def qT (c r : eb_St) : Prop := ∀ i, i < 8 → c.1 4 i = m_X10_byteOf r (nI i) ∧ c.2 5 i = m_X10_addressOf r (nI i)
def qF (c r : eb_St) : Prop := ¬ r.1 0 35 = 0 → ∀ i, i < 16 → yfit (c.1 6 i) (c.1 7 i) (r.2 15 i) (r.2 16 i)
def Q0 (n t : Nat) (u : Int32) (v : Int64) (c r : eb_St) : Prop := qM c r ∧ qX v c r ∧ qE t c r ∧ qS n t u c r ∧ (qR r ∧ qG r) ∧ qP c r ∧ qL c
def Q (n t : Nat) (u : Int32) (v : Int64) (c r : eb_St) : Prop := Q0 n t u v c r ∧ qT c r ∧ qF c r
theorem y_byte {r r' : eb_St} (h8 : r'.1 0 8 = r.1 0 8) (h11 : ∀ b, r'.1 11 b = r.1 11 b) (h4 : ∀ b, r'.1 4 b = r.1 4 b) (h6 : ∀ b, r'.1 6 b = r.1 6 b) (i : Int32) : m_X10_byteOf r' i = m_X10_byteOf r i := by
  unfold m_X10_byteOf m_X10_isLive
  rw [h8, h11, h4, h6]
theorem y_addr {r r' : eb_St} (h8 : r'.1 0 8 = r.1 0 8) (h11 : ∀ b, r'.1 11 b = r.1 11 b) (h4 : ∀ b, r'.1 4 b = r.1 4 b) (h6 : ∀ b, r'.1 6 b = r.1 6 b) (h10 : ∀ b, r'.1 10 b = r.1 10 b) (h7 : ∀ b, r'.1 7 b = r.1 7 b) (hs : ∀ b, r'.1 8 b = r.1 8 b) (h5 : ∀ b, r'.2 5 b = r.2 5 b) (i : Int32) : m_X10_addressOf r' i = m_X10_addressOf r i := by
  unfold m_X10_addressOf
  rw [y_byte h8 h11 h4 h6]
  unfold m_X10_isLive
  rw [h8, h11, h6, h10, h7, hs, h5]
theorem qT_fr {c c' r r' : eb_St} (h : qT c r) (c4 : ∀ b, c'.1 4 b = c.1 4 b) (c5 : ∀ b, c'.2 5 b = c.2 5 b) (h8 : r'.1 0 8 = r.1 0 8) (h1 : ∀ q b, q = 4 ∨ q = 6 ∨ q = 7 ∨ q = 8 ∨ q = 10 ∨ q = 11 → r'.1 q b = r.1 q b) (h5 : ∀ b, r'.2 5 b = r.2 5 b) : qT c' r' := by
  intro i hi
  rw [c4, c5, y_byte h8 (fun b => h1 11 b (by omega)) (fun b => h1 4 b (by omega)) (fun b => h1 6 b (by omega)), y_addr h8 (fun b => h1 11 b (by omega)) (fun b => h1 4 b (by omega)) (fun b => h1 6 b (by omega)) (fun b => h1 10 b (by omega)) (fun b => h1 7 b (by omega)) (fun b => h1 8 b (by omega)) h5]
  exact h i hi
theorem qL_fr {c c' : eb_St} (h : qL c) (h1 : ∀ q b, q = 4 ∨ q = 6 ∨ q = 7 → c'.1 q b = c.1 q b) (h5 : ∀ b, c'.2 5 b = c.2 5 b) : qL c' := by
  intro i hi
  unfold ypc
  rw [h5, h5, h1 4 _ (by omega), h1 6 _ (by omega), h1 7 _ (by omega)]
  exact h i hi
theorem qP_fr {c c' r r' : eb_St} (h : qP c r) (c4 : ∀ b, c'.1 4 b = c.1 4 b) (c5 : ∀ b, c'.2 5 b = c.2 5 b) (r4 : ∀ b, r'.1 4 b = r.1 4 b) (r5 : ∀ b, r'.2 5 b = r.2 5 b) : qP c' r' := by
  intro i h0 hi
  rw [c4, c5, r4, r5]
  exact h i h0 hi
theorem qM_fr {c c' r r' : eb_St} (h : qM c r) (c2 : ∀ b, c'.2 2 b = c.2 2 b) (r1 : ∀ b, r'.1 1 b = r.1 1 b) : qM c' r' := by
  intro p hp
  unfold cB rB
  rw [c2, r1]
  exact h p hp
theorem qX_fr {v : Int64} {c c' r r' : eb_St} (h : qX v c r) (c2 : ∀ q b, 19 ≤ q → c'.2 q b = c.2 q b) (r6 : ∀ b, r'.1 6 b = r.1 6 b) (r2 : ∀ q b, q = 2 ∨ q = 3 → r'.2 q b = r.2 q b) : qX v c' r' := by
  intro s hs hl
  rw [r6] at hl
  obtain ⟨a, b⟩ := h s hs hl
  refine ⟨fun j hj => ?_, ?_⟩
  · rw [c2 _ _ (by omega), r2 2 _ (by omega)]; exact a j hj
  · rw [c2 _ _ (by omega), r2 3 _ (by omega)]; exact b
theorem qE_fr {t : Nat} {c c' r r' : eb_St} (h : qE t c r) (c1 : ∀ q b, 13 ≤ q → q < 19 → c'.1 q b = c.1 q b) (c2 : ∀ q b, 13 ≤ q → q < 19 → c'.2 q b = c.2 q b) (r1 : ∀ q b, 6 ≤ q → q < 14 → r'.1 q b = r.1 q b) (r2 : ∀ b, r'.2 14 b = r.2 14 b) (r0 : r'.2 0 0 = r.2 0 0) : qE t c' r' := by
  intro e he
  rw [c1 _ _ (by omega) (by omega), c1 _ _ (by omega) (by omega), c1 _ _ (by omega) (by omega), c1 _ _ (by omega) (by omega), c1 _ _ (by omega) (by omega), c1 _ _ (by omega) (by omega), c1 _ _ (by omega) (by omega), c1 _ _ (by omega) (by omega), c2 _ _ (by omega) (by omega), c2 _ _ (by omega) (by omega), r1 6 _ (by omega) (by omega), r1 7 _ (by omega) (by omega), r1 8 _ (by omega) (by omega), r1 9 _ (by omega) (by omega), r1 10 _ (by omega) (by omega), r1 11 _ (by omega) (by omega), r1 12 _ (by omega) (by omega), r1 13 _ (by omega) (by omega), r2, r0]
  exact h e he
theorem qG_fr {r r' : eb_St} (h : qG r) (r1 : ∀ q b, 6 ≤ q → q < 14 → r'.1 q b = r.1 q b) : qG r' := by
  intro e he
  rw [r1 6 _ (by omega) (by omega), r1 7 _ (by omega) (by omega), r1 8 _ (by omega) (by omega), r1 10 _ (by omega) (by omega), r1 11 _ (by omega) (by omega)]
  exact h e he
/-- a change of memory, registers, pcs and of what neither side keeps -/
theorem Q_fr {n t : Nat} {u : Int32} {v v' : Int64} {c c' r r' : eb_St} (h : Q n t u v c r) (c1 : c'.1 = c.1) (c2 : ∀ q b, q < 19 → ¬ q = 2 → ¬ q = 9 → ¬ q = 11 → c'.2 q b = c.2 q b) (r1 : ∀ q b, ¬ q = 1 → ¬ q = 17 → (q = 0 → b < 36) → r'.1 q b = r.1 q b) (r2 : ∀ q b, ¬ q = 2 → ¬ q = 3 → (q = 0 → ¬ b = 36) → r'.2 q b = r.2 q b) (hm : qM c' r') (hx : qX v' c' r') : Q n t u v' c' r' := by
  obtain ⟨⟨m, x, e, s, ⟨i, g⟩, p, l⟩, T, F⟩ := h
  refine ⟨⟨hm, hx, qE_fr e (fun q b _ _ => by rw [c1]) (fun q b h1 h2 => c2 q b (by omega) (by omega) (by omega) (by omega)) (fun q b h1 h2 => r1 q b (by omega) (by omega) (by omega)) (fun b => r2 _ _ (by omega) (by omega) (by omega)) (r2 _ _ (by omega) (by omega) (by omega)), ?_, ⟨?_, qG_fr g (fun q b h1 h2 => r1 q b (by omega) (by omega) (by omega))⟩, qP_fr p (fun b => by rw [c1]) (fun b => c2 _ _ (by omega) (by omega) (by omega) (by omega)) (fun b => r1 _ _ (by omega) (by omega) (by omega)) (fun b => r2 _ _ (by omega) (by omega) (by omega)), qL_fr l (fun q b _ => by rw [c1]) (fun b => c2 _ _ (by omega) (by omega) (by omega) (by omega))⟩, qT_fr T (fun b => by rw [c1]) (fun b => c2 _ _ (by omega) (by omega) (by omega) (by omega)) (r1 _ _ (by omega) (by omega) (by omega)) (fun q b hq => r1 _ _ (by omega) (by omega) (by omega)) (fun b => r2 _ _ (by omega) (by omega) (by omega)), ?_⟩
  · have c2' : ∀ q b, q = 0 ∨ q = 8 ∨ q = 10 → c'.2 q b = c.2 q b := fun q b hq => c2 q b (by omega) (by omega) (by omega) (by omega)
    have r1' : ∀ b, b < 36 → r'.1 0 b = r.1 0 b := fun b hb => r1 0 b (by omega) (by omega) (by omega)
    have r2' : ∀ b, ¬ b = 36 → r'.2 0 b = r.2 0 b := fun b hb => r2 0 b (by omega) (by omega) (by omega)
    unfold qS
    rw [c1, r1' 5 (by omega), r1' 6 (by omega), r1' 8 (by omega), r1' 9 (by omega), r1' 10 (by omega), r1' 11 (by omega), r1' 12 (by omega), r1' 13 (by omega), r1' 14 (by omega), r1' 4 (by omega), r1' 32 (by omega), r2' 7 (by omega), r2' 15 (by omega), r2' 16 (by omega), r2' 17 (by omega), r2' 18 (by omega), r2' 19 (by omega), r2' 0 (by omega), r2' 31 (by omega), c2' 0 8 (by omega), c2' 8 2 (by omega), c2' 8 3 (by omega), c2' 8 4 (by omega), c2' 8 5 (by omega), c2' 10 0 (by omega), c2' 10 7 (by omega), c2' 10 8 (by omega)]
    exact s
  · unfold qR
    rw [r1 0 8 (by omega) (by omega) (by omega), r1 0 4 (by omega) (by omega) (by omega)]
    rcases i with i | ⟨k, hk, i⟩
    · exact Or.inl i
    · exact Or.inr ⟨k, hk, by rw [r1 6 k (by omega) (by omega) (by omega)]; exact i⟩
  · intro hf k hk
    rw [r1 0 35 (by omega) (by omega) (by omega)] at hf
    rw [c1, r2 15 k (by omega) (by omega) (by omega), r2 16 k (by omega) (by omega) (by omega)]
    exact F hf k hk
/-- a change of single numbers -/
theorem Q_sc {n n' t : Nat} {u u' : Int32} {v v' : Int64} {c c' r r' : eb_St} (h : Q n t u v c r) (c1 : ∀ q b, ¬ q = 0 → ¬ q = 8 → ¬ q = 9 → ¬ q = 10 → c'.1 q b = c.1 q b) (c2 : ∀ q b, q < 19 → ¬ q = 0 → ¬ q = 8 → ¬ q = 9 → ¬ q = 10 → ¬ q = 11 → c'.2 q b = c.2 q b) (r1 : ∀ q b, ¬ q = 0 → r'.1 q b = r.1 q b) (r2 : ∀ q b, ¬ q = 0 → ¬ q = 2 → ¬ q = 3 → r'.2 q b = r.2 q b) (r8 : r'.1 0 8 = r.1 0 8) (r00 : r'.2 0 0 = r.2 0 0) (hf : r'.1 0 35 = r.1 0 35 ∨ r'.1 0 35 = 0) (hs : qS n' t u' c' r') (hx : qX v' c' r') (hr : qR r') : Q n' t u' v' c' r' := by
  obtain ⟨⟨m, x, e, s, ⟨i, g⟩, p, l⟩, T, F⟩ := h
  refine ⟨⟨qM_fr m (fun b => c2 _ _ (by omega) (by omega) (by omega) (by omega) (by omega) (by omega)) (fun b => r1 _ _ (by omega)), hx, qE_fr e (fun q b _ _ => c1 _ _ (by omega) (by omega) (by omega) (by omega)) (fun q b h1 h2 => c2 q b (by omega) (by omega) (by omega) (by omega) (by omega) (by omega)) (fun q b h1 h2 => r1 q b (by omega)) (fun b => r2 _ _ (by omega) (by omega) (by omega)) r00, hs, ⟨hr, qG_fr g (fun q b h1 h2 => r1 q b (by omega))⟩, qP_fr p (fun b => c1 _ _ (by omega) (by omega) (by omega) (by omega)) (fun b => c2 _ _ (by omega) (by omega) (by omega) (by omega) (by omega) (by omega)) (fun b => r1 _ _ (by omega)) (fun b => r2 _ _ (by omega) (by omega) (by omega)), qL_fr l (fun q b _ => c1 _ _ (by omega) (by omega) (by omega) (by omega)) (fun b => c2 _ _ (by omega) (by omega) (by omega) (by omega) (by omega) (by omega))⟩, qT_fr T (fun b => c1 _ _ (by omega) (by omega) (by omega) (by omega)) (fun b => c2 _ _ (by omega) (by omega) (by omega) (by omega) (by omega) (by omega)) r8 (fun q b hq => r1 _ _ (by omega)) (fun b => r2 _ _ (by omega) (by omega) (by omega)), ?_⟩
  intro hf2 k hk
  rcases hf with hf | hf
  · rw [hf] at hf2
    rw [c1 6 k (by omega) (by omega) (by omega) (by omega), c1 7 k (by omega) (by omega) (by omega) (by omega), r2 15 k (by omega) (by omega) (by omega), r2 16 k (by omega) (by omega) (by omega)]
    exact F hf2 k hk
  · exact absurd hf hf2
theorem Q_reg {n t : Nat} {u : Int32} {v : Int64} {c r : eb_St} (h : Q n t u v c r) {s j : Nat} (hs : s < 7) (hj : j < 32) (w : Int64) : Q n t u v (eb_pJ c (26 + s) j w) (eb_pJ r 2 (32 * s + j) w) := by
  refine Q_fr h rfl (fun q b h1 _ _ _ => by simp [eb_pJ]; intro z; omega) (fun q b _ _ _ => rfl) (fun q b h1 _ _ => by simp [eb_pJ, h1]) (qM_fr h.1.1 (fun b => by simp [eb_pJ]; intro z; omega) (fun b => rfl)) ?_
  intro s' hs' hl
  obtain ⟨a, b⟩ := h.1.2.1 s' hs' hl
  refine ⟨fun j' hj' => ?_, ?_⟩
  · have e := a j' hj'
    show (if 26 + s' = 26 + s ∧ j' = j then w else c.2 (26 + s') j') = if 2 = 2 ∧ 32 * s' + j' = 32 * s + j then w else r.2 2 (32 * s' + j')
    by_cases q : 26 + s' = 26 + s ∧ j' = j
    · rw [if_pos q, if_pos (by omega)]
    · rw [if_neg q, if_neg (by omega)]; exact e
  · show (if 3 = 2 ∧ s' = 32 * s + j then w else r.2 3 s') = (if 19 + s' = 26 + s ∧ 1 = j then w else c.2 (19 + s') 1) + (if s' = 6 then v else 0)
    rw [if_neg (by omega), if_neg (by omega)]
    exact b
theorem Q_pc {n t : Nat} {u : Int32} {v v' : Int64} {c r : eb_St} (h : Q n t u v c r) {s : Nat} (hs : s < 7) (w w' : Int64) (hv : s = 6 ∧ w' = w + v' ∨ ¬ s = 6 ∧ w = w' ∧ v = v') : Q n t u v' (eb_pJ c (19 + s) 1 w) (eb_pJ r 3 s w') := by
  refine Q_fr h rfl (fun q b h1 _ _ _ => by simp [eb_pJ]; intro z; omega) (fun q b _ _ _ => rfl) (fun q b _ h1 _ => by simp [eb_pJ, h1]) (qM_fr h.1.1 (fun b => by simp [eb_pJ]; intro z; omega) (fun b => rfl)) ?_
  intro s' hs' hl
  obtain ⟨a, b⟩ := h.1.2.1 s' hs' hl
  refine ⟨fun j' hj' => ?_, ?_⟩
  · show (if 26 + s' = 19 + s ∧ j' = 1 then w else c.2 (26 + s') j') = if 2 = 3 ∧ 32 * s' + j' = s then w' else r.2 2 (32 * s' + j')
    rw [if_neg (by omega), if_neg (by omega)]
    exact a j' hj'
  · show (if 3 = 3 ∧ s' = s then w' else r.2 3 s') = (if 19 + s' = 19 + s ∧ 1 = 1 then w else c.2 (19 + s') 1) + (if s' = 6 then v' else 0)
    by_cases q : s' = s
    · rw [if_pos ⟨rfl, q⟩, if_pos ⟨by omega, rfl⟩, q]
      rcases hv with ⟨h6, hv⟩ | ⟨h6, hv, _⟩
      · rw [if_pos h6, hv]
      · rw [if_neg h6, hv, Int64.add_zero]
    · rw [if_neg (by omega), if_neg (by omega), b]
      rcases hv with ⟨h6, hv⟩ | ⟨h6, _, hv⟩
      · rw [if_neg (by omega), if_neg (by omega)]
      · rw [hv]
theorem Q_mem {n t : Nat} {u : Int32} {v : Int64} {c c' r r' : eb_St} (h : Q n t u v c r) (hc : cF c c') (hr : rF r r') (hm : qM c' r') : Q n t u v c' r' :=
  Q_fr h hc.1 (fun q b _ h2 _ _ => hc.2 q b h2) (fun q b h1 _ _ => hr.2 q b h1) (fun q b _ _ _ => by rw [hr.1]) hm (qX_fr h.1.2.1 (fun q b h1 => hc.2 q b (by omega)) (fun b => hr.2 6 b (by omega)) (fun q b _ => by rw [hr.1]))
/-- what neither side keeps -/
theorem Q_scr {n t : Nat} {u : Int32} {v : Int64} {c c' r r' : eb_St} (h : Q n t u v c r) (c1 : c'.1 = c.1) (c2 : ∀ q b, ¬ q = 9 → ¬ q = 11 → c'.2 q b = c.2 q b) (r1 : ∀ q b, ¬ q = 17 → (q = 0 → b < 36) → r'.1 q b = r.1 q b) (r2 : ∀ q b, (q = 0 → ¬ b = 36) → r'.2 q b = r.2 q b) : Q n t u v c' r' :=
  Q_fr h c1 (fun q b _ _ h3 h4 => c2 q b h3 h4) (fun q b _ h2 h3 => r1 q b h2 h3) (fun q b _ _ h3 => r2 q b h3) (qM_fr h.1.1 (fun b => c2 _ _ (by omega) (by omega)) (fun b => r1 _ _ (by omega) (by omega))) (qX_fr h.1.2.1 (fun q b h1 => c2 q b (by omega) (by omega)) (fun b => r1 _ _ (by omega) (by omega)) (fun q b hq => r2 _ _ (by omega)))
theorem Q_c9 {n t : Nat} {u : Int32} {v : Int64} {c r : eb_St} (h : Q n t u v c r) (j : Nat) (w : Int64) : Q n t u v (eb_pJ c 9 j w) r :=
  Q_scr h rfl (fun q b h1 _ => by simp [eb_pJ, h1]) (fun q b _ _ => rfl) (fun q b _ => rfl)
theorem Q_r36 {n t : Nat} {u : Int32} {v : Int64} {c r : eb_St} (h : Q n t u v c r) (w : Int64) : Q n t u v c (eb_pJ r 0 36 w) :=
  Q_scr h rfl (fun q b _ _ => rfl) (fun q b _ _ => rfl) (fun q b h1 => by simp [eb_pJ]; intro z y; exact absurd y (h1 z))
theorem Q_r0 {n t : Nat} {u : Int32} {v : Int64} {c r : eb_St} (h : Q n t u v c r) {j : Nat} (hj : 36 ≤ j) (w : Int32) : Q n t u v c (eb_pI r 0 j w) :=
  Q_scr h rfl (fun q b _ _ => rfl) (fun q b _ h2 => by simp [eb_pI]; intro z y; have := h2 z; omega) (fun q b _ => rfl)
