/-! each byte for itself -/
def yok (c : eb_St) (need : Int32) (a : Nat) : Prop := ¬ m_X6_decider_2 17 c (nI a) (nI (a + 1)) 0 = -1 ∧ (c.1 4 (m_X6_decider_2 17 c (nI a) (nI (a + 1)) 0).toNatClampNeg &&& need) = need
theorem Q_one {n t : Nat} {u : Int32} {v : Int64} {c r : eb_St} (h : Q n t u v c r) {a : Nat} (ha : a + 1 ≤ 65536) (need : Int32) : ((m_X10_lets r (nI a) 1 need 0).1 = true ↔ yok c need a) ∧ Q n t u v c (m_X10_lets r (nI a) 1 need 0).2 ∧ rH r (m_X10_lets r (nI a) 1 need 0).2 := by
  obtain ⟨r', e, hQ, hH, hf⟩ := Q_fresh h (nI a) 1 need 0
  rw [e]
  unfold yok
  rcases y_dec (c := c) (r := r') (hQ.2.2 hf) (fun i hi => (Q_B hQ hi).1) ha (by omega) need 0 16 0 (by omega) with ⟨d1, d2⟩ | ⟨j, hj, d1, l1, l2, d2⟩
  · rw [show m_X6_decider_2 17 c (nI a) (nI (a + 1)) 0 = -1 from d1, show m_X10_lets_14 17 r' (nI a) 1 need 0 0 = _ from d2]
    refine ⟨?_, hQ, hH⟩
    simp
  · rw [show m_X6_decider_2 17 c (nI a) (nI (a + 1)) 0 = nI j from d1, show m_X10_lets_14 17 r' (nI a) 1 need 0 0 = _ from d2]
    refine ⟨?_, hQ, hH⟩
    have ia : (nI a).toInt = a := nI_toInt (by omega)
    have iz : (nI (a + 1)).toInt = (a + 1 : Nat) := nI_toInt (by omega)
    rw [if_neg (show ¬ nI a < c.1 6 j by rw [Int32.lt_iff_toInt_lt, ia]; omega), if_pos (show nI (a + 1) ≤ c.1 7 j by rw [Int32.le_iff_toInt_le, iz]; omega), if_pos rfl, nI_clamp (by omega)]
    have hn : ¬ nI j = -1 := fun q => absurd (nI_pos (n := j) (by omega)) (by rw [q]; decide)
    by_cases hb : (c.1 4 j &&& need) = need
    · simp [hb, hn]
    · simp [hb]
theorem Q_all {n t : Nat} {u : Int32} {v : Int64} {c : eb_St} {f m : Nat} (hf : f + m ≤ 65536) (need : Int32) : ∀ (d k : Nat) (r : eb_St) (may : Bool), k + d = m → Q n t u v c r → ((m_X10_mayAll_6 (d + 1) r (lN f) (lN m) need may (lN k)).1 = true ↔ may = true ∧ ∀ j, k ≤ j → j < m → yok c need (f + j)) ∧ Q n t u v c (m_X10_mayAll_6 (d + 1) r (lN f) (lN m) need may (lN k)).2 ∧ rH r (m_X10_mayAll_6 (d + 1) r (lN f) (lN m) need may (lN k)).2 := by
  intro d
  induction d with
  | zero =>
    intro k r may h hQ
    rw [m_X10_mayAll_6, if_pos (show lN m ≤ lN k from by rw [lN_le (by omega) (by omega)]; omega)]
    refine ⟨⟨fun z => ⟨z, fun j h1 h2 => absurd h2 (by omega)⟩, fun z => z.1⟩, hQ, rH_0 r⟩
  | succ d ih =>
    intro k r may h hQ
    rw [m_X10_mayAll_6, if_neg (show ¬ lN m ≤ lN k from by rw [lN_le (by omega) (by omega)]; omega)]
    cases may with
    | false =>
      rw [if_pos (by decide)]
      exact ⟨⟨fun z => absurd z (show ¬ false = true by decide), fun z => absurd z.1 (by decide)⟩, hQ, rH_0 r⟩
    | true =>
      rw [if_neg (by decide)]
      have e : (lN f + lN k).toInt32 = nI (f + k) := by rw [lN_add, lN_i]
      obtain ⟨o1, o2, o3⟩ := Q_one hQ (a := f + k) (by omega) need
      rw [← e] at o1 o2 o3
      have g := ih (k + 1) (m_X10_lets r (lN f + lN k).toInt32 1 need 0).2 (m_X10_lets r (lN f + lN k).toInt32 1 need 0).1 (by omega) o2
      rw [← lN_1] at g
      refine ⟨g.1.trans ?_, g.2.1, rH_t o3 g.2.2⟩
      rw [o1]
      constructor
      · rintro ⟨z1, z2⟩
        refine ⟨rfl, fun j h1 h2 => ?_⟩
        by_cases q : j = k
        · rw [q]; exact z1
        · exact z2 j (by omega) h2
      · rintro ⟨_, z⟩
        exact ⟨z k (by omega) (by omega), fun j h1 h2 => z j (by omega) h2⟩
theorem Q_mayAll {n t : Nat} {u : Int32} {v : Int64} {c r : eb_St} (h : Q n t u v c r) {f m : Nat} (hf : f + m ≤ 65536) (need : Int32) : ((m_X10_mayAll r (lN f) (lN m) need).1 = true ↔ ∀ j, j < m → yok c need (f + j)) ∧ Q n t u v c (m_X10_mayAll r (lN f) (lN m) need).2 ∧ rH r (m_X10_mayAll r (lN f) (lN m) need).2 := by
  have e : m_X10_mayAll r (lN f) (lN m) need = m_X10_mayAll_6 (m + 1) r (lN f) (lN m) need true (lN 0) := by
    unfold m_X10_mayAll
    rw [pk_lT (by omega), show (0 : Int64).toInt = 0 by decide]
    congr 1
  rw [e]
  obtain ⟨g1, g2, g3⟩ := Q_all (n := n) (t := t) (u := u) (v := v) (c := c) hf need m 0 r true (by omega) h
  exact ⟨g1.trans ⟨fun z j hj => z.2 j (by omega) hj, fun z => ⟨rfl, fun j _ hj => z j hj⟩⟩, g2, g3⟩
theorem y_dcong {c : eb_St} {a b : Nat} (ha : a + 1 ≤ 65536) (hb : b + 1 ≤ 65536) (h : ∀ i, i < 16 → ((c.1 7 i).toInt ≤ a ↔ (c.1 7 i).toInt ≤ b) ∧ ((a : Int) < (c.1 6 i).toInt ↔ (b : Int) < (c.1 6 i).toInt)) : ∀ d i, i + d = 16 → m_X6_decider_2 (d + 1) c (nI a) (nI (a + 1)) (nI i) = m_X6_decider_2 (d + 1) c (nI b) (nI (b + 1)) (nI i) := by
  intro d
  have ia : (nI a).toInt = a := nI_toInt (by omega)
  have ia1 : (nI (a + 1)).toInt = (a + 1 : Nat) := nI_toInt (by omega)
  have ib : (nI b).toInt = b := nI_toInt (by omega)
  have ib1 : (nI (b + 1)).toInt = (b + 1 : Nat) := nI_toInt (by omega)
  induction d with
  | zero =>
    intro i hi
    rw [m_X6_decider_2, m_X6_decider_2, if_pos (show (16 : Int32) ≤ nI i from nI_le (a := 16) (by omega) (by omega)), if_pos (show (16 : Int32) ≤ nI i from nI_le (a := 16) (by omega) (by omega))]
  | succ d ih =>
    intro i hi
    obtain ⟨h1, h2⟩ := h i (by omega)
    have hn := ih (i + 1) (by omega)
    rw [m_X6_decider_2, m_X6_decider_2, if_neg (show ¬ (16 : Int32) ≤ nI i from nI_ge (b := 16) (by omega) (by omega)), if_neg (show ¬ (16 : Int32) ≤ nI i from nI_ge (b := 16) (by omega) (by omega)), nI_clamp (by omega), nI_1]
    dsimp only
    by_cases q : c.1 7 i ≤ nI a
    · have q2 : c.1 7 i ≤ nI b := by rw [Int32.le_iff_toInt_le] at q ⊢; omega
      rw [if_pos q, if_pos q2, hn]
    · have q2 : ¬ c.1 7 i ≤ nI b := by rw [Int32.le_iff_toInt_le] at q ⊢; omega
      rw [if_neg q, if_neg q2]
      by_cases p : nI (a + 1) ≤ c.1 6 i
      · have p2 : nI (b + 1) ≤ c.1 6 i := by rw [Int32.le_iff_toInt_le] at p ⊢; omega
        rw [if_pos p, if_pos p2, hn]
      · have p2 : ¬ nI (b + 1) ≤ c.1 6 i := by rw [Int32.le_iff_toInt_le] at p ⊢; omega
        rw [if_neg p, if_neg p2]
theorem y_nb {c : eb_St} {a : Int32} : ∀ (d i : Nat) (b : Int32), i + d = 16 → a.toInt < b.toInt → a.toInt < (m_X6_nextBorder_5 (d + 1) c a b (nI i)).toInt ∧ (m_X6_nextBorder_5 (d + 1) c a b (nI i)).toInt ≤ b.toInt ∧ (∀ j, i ≤ j → j < 16 → ((c.1 6 j).toInt ≤ a.toInt ∨ (m_X6_nextBorder_5 (d + 1) c a b (nI i)).toInt ≤ (c.1 6 j).toInt) ∧ ((c.1 7 j).toInt ≤ a.toInt ∨ (m_X6_nextBorder_5 (d + 1) c a b (nI i)).toInt ≤ (c.1 7 j).toInt)) ∧ ((m_X6_nextBorder_5 (d + 1) c a b (nI i)).toInt = b.toInt ∨ ∃ j, j < 16 ∧ ((m_X6_nextBorder_5 (d + 1) c a b (nI i)).toInt = (c.1 6 j).toInt ∨ (m_X6_nextBorder_5 (d + 1) c a b (nI i)).toInt = (c.1 7 j).toInt)) := by
  intro d
  induction d with
  | zero =>
    intro i b h hb
    have e : m_X6_nextBorder_5 (0 + 1) c a b (nI i) = b := by
      rw [m_X6_nextBorder_5, if_pos (show (16 : Int32) ≤ nI i from nI_le (a := 16) (by omega) (by omega))]
    rw [e]
    exact ⟨hb, by omega, fun j h1 h2 => absurd h2 (by omega), Or.inl rfl⟩
  | succ d ih =>
    intro i b h hb
    have e : ∃ b2 : Int32, m_X6_nextBorder_5 (d + 1 + 1) c a b (nI i) = m_X6_nextBorder_5 (d + 1) c a b2 (nI (i + 1)) ∧ a.toInt < b2.toInt ∧ b2.toInt ≤ b.toInt ∧ ((c.1 6 i).toInt ≤ a.toInt ∨ b2.toInt ≤ (c.1 6 i).toInt) ∧ ((c.1 7 i).toInt ≤ a.toInt ∨ b2.toInt ≤ (c.1 7 i).toInt) ∧ (b2.toInt = b.toInt ∨ b2.toInt = (c.1 6 i).toInt ∨ b2.toInt = (c.1 7 i).toInt) := by
      rw [m_X6_nextBorder_5, if_neg (show ¬ (16 : Int32) ≤ nI i from nI_ge (b := 16) (by omega) (by omega)), nI_clamp (by omega), nI_1]
      dsimp only
      by_cases q1 : c.1 6 i ≤ a
      · rw [if_pos q1]
        rw [Int32.le_iff_toInt_le] at q1
        by_cases q2 : c.1 7 i ≤ a
        · rw [if_pos q2]
          rw [Int32.le_iff_toInt_le] at q2
          exact ⟨b, rfl, by omega, by omega, by omega, by omega, by omega⟩
        · rw [if_neg q2]
          rw [Int32.le_iff_toInt_le] at q2
          by_cases q3 : b ≤ c.1 7 i
          · rw [if_pos q3]
            rw [Int32.le_iff_toInt_le] at q3
            exact ⟨b, rfl, by omega, by omega, by omega, by omega, by omega⟩
          · rw [if_neg q3]
            rw [Int32.le_iff_toInt_le] at q3
            exact ⟨c.1 7 i, rfl, by omega, by omega, by omega, by omega, by omega⟩
      · rw [if_neg q1]
        rw [Int32.le_iff_toInt_le] at q1
        by_cases q0 : b ≤ c.1 6 i
        · rw [if_pos q0]
          rw [Int32.le_iff_toInt_le] at q0
          by_cases q2 : c.1 7 i ≤ a
          · rw [if_pos q2]
            rw [Int32.le_iff_toInt_le] at q2
            exact ⟨b, rfl, by omega, by omega, by omega, by omega, by omega⟩
          · rw [if_neg q2]
            rw [Int32.le_iff_toInt_le] at q2
            by_cases q3 : b ≤ c.1 7 i
            · rw [if_pos q3]
              rw [Int32.le_iff_toInt_le] at q3
              exact ⟨b, rfl, by omega, by omega, by omega, by omega, by omega⟩
            · rw [if_neg q3]
              rw [Int32.le_iff_toInt_le] at q3
              exact ⟨c.1 7 i, rfl, by omega, by omega, by omega, by omega, by omega⟩
        · rw [if_neg q0]
          rw [Int32.le_iff_toInt_le] at q0
          by_cases q2 : c.1 7 i ≤ a
          · rw [if_pos q2]
            rw [Int32.le_iff_toInt_le] at q2
            exact ⟨c.1 6 i, rfl, by omega, by omega, by omega, by omega, by omega⟩
          · rw [if_neg q2]
            rw [Int32.le_iff_toInt_le] at q2
            by_cases q3 : c.1 6 i ≤ c.1 7 i
            · rw [if_pos q3]
              rw [Int32.le_iff_toInt_le] at q3
              exact ⟨c.1 6 i, rfl, by omega, by omega, by omega, by omega, by omega⟩
            · rw [if_neg q3]
              rw [Int32.le_iff_toInt_le] at q3
              exact ⟨c.1 7 i, rfl, by omega, by omega, by omega, by omega, by omega⟩
    obtain ⟨b2, e, g1, g2, g3, g4, g5⟩ := e
    rw [e]
    obtain ⟨k1, k2, k3, k4⟩ := ih (i + 1) b2 (by omega) g1
    refine ⟨k1, by omega, fun j h1 h2 => ?_, ?_⟩
    · by_cases q : j = i
      · rw [q]
        clear k4 k3 ih
        omega
      · exact k3 j (by omega) h2
    · rcases k4 with k4 | k4
      · rcases g5 with g5 | g5 | g5
        · exact Or.inl (by omega)
        · exact Or.inr ⟨i, by omega, Or.inl (by omega)⟩
        · exact Or.inr ⟨i, by omega, Or.inr (by omega)⟩
      · exact Or.inr k4
def yct (p : Nat → Bool) : Nat → Nat
  | 0 => 0
  | n + 1 => yct p n + (if p n then 1 else 0)
theorem yct_b (p : Nat → Bool) : ∀ n, yct p n ≤ n := by
  intro n
  induction n with
  | zero => exact Nat.le_refl 0
  | succ n ih => rw [yct]; split <;> omega
theorem yct_le {p q : Nat → Bool} : ∀ n, (∀ k, k < n → p k = true → q k = true) → yct p n ≤ yct q n := by
  intro n
  induction n with
  | zero => intro _; exact Nat.le_refl 0
  | succ n ih =>
    intro h
    have h1 := ih (fun k hk => h k (by omega))
    have h2 := h n (by omega)
    rw [yct, yct]
    cases hp : p n with
    | false => simp; omega
    | true => rw [h2 hp]; simp; exact h1
theorem yct_lt {p q : Nat → Bool} {k0 : Nat} (hq : q k0 = true) (hp : p k0 = false) : ∀ n, k0 < n → (∀ k, k < n → p k = true → q k = true) → yct p n < yct q n := by
  intro n
  induction n with
  | zero => intro h; omega
  | succ n ih =>
    intro h0 h
    rw [yct, yct]
    by_cases e : k0 = n
    · have h1 := yct_le n (fun k hk => h k (by omega))
      rw [← e, hq, hp, e]
      simp
      omega
    · have h1 := ih (by omega) (fun k hk => h k (by omega))
      have h2 := h n (by omega)
      cases hpn : p n with
      | false => simp; omega
      | true => rw [h2 hpn]; simp; exact h1
def yvl (c : eb_St) (k : Nat) : Int := if k < 16 then (c.1 6 k).toInt else (c.1 7 (k - 16)).toInt
def ybd (c : eb_St) (a e : Int) (k : Nat) : Bool := decide (a < yvl c k ∧ yvl c k < e)
theorem y_each {c : eb_St} (hr : ∀ i, i < 16 → 0 ≤ (c.1 6 i).toInt ∧ 0 ≤ (c.1 7 i).toInt) {e : Nat} (he : e ≤ 65536) (need : Int32) : ∀ (d k a : Nat), k + d = 33 → a ≤ 65536 → (e ≤ a ∨ yct (ybd c a e) 32 + k ≤ 32) → (m_X6_letsEach_11 (d + 1) c need (nI e) (nI a) (nI k) = true ↔ ∀ j, a ≤ j → j < e → yok c need j) := by
  intro d
  induction d with
  | zero =>
    intro k a h ha hi
    have hea : e ≤ a := by omega
    rw [m_X6_letsEach_11, if_pos (show (32 : Int32) < nI k from nI_lt (a := 32) (by omega) (by omega)), m_X6_letsEach_74, if_neg (show ¬ nI a < nI e from nI_nlt hea (by omega))]
    exact ⟨fun _ j h1 h2 => absurd h2 (by omega), fun _ => rfl⟩
  | succ d ih =>
    intro k a h ha hi
    rw [m_X6_letsEach_11, if_neg (show ¬ (32 : Int32) < nI k from fun q => by
      have q2 : (32 : Nat) < k := (nI_ltI (a := 32) (by omega) (by omega)).mp q
      omega)]
    by_cases hea : e ≤ a
    · rw [if_pos (nI_le hea (by omega)), m_X6_letsEach_74, if_neg (show ¬ nI a < nI e from nI_nlt hea (by omega))]
      exact ⟨fun _ j h1 h2 => absurd h2 (by omega), fun _ => rfl⟩
    · rw [if_neg (nI_ge (by omega) (by omega))]
      show ((if m_X6_decider_2 17 c (nI a) (nI a + 1) 0 = (-1) then false else (if ((c.1 4 (m_X6_decider_2 17 c (nI a) (nI a + 1) 0).toNatClampNeg) &&& need) = need then m_X6_letsEach_11 (d + 1) c need (nI e) (m_X6_nextBorder_5 17 c (nI a) (nI e) (nI 0)) (nI k + 1) else false)) = true ↔ _)
      rw [nI_1, nI_1]
      have ia : (nI a).toInt = a := nI_toInt (by omega)
      have ie : (nI e).toInt = e := nI_toInt (by omega)
      obtain ⟨n1, n2, n3, n4⟩ := y_nb (c := c) (a := nI a) 16 0 (nI e) (by omega) (by omega)
      rw [ia] at n1 n3
      rw [ie] at n2 n4
      have fuel : (16 + 1 : Nat) = 17 := rfl
      rw [fuel] at n1 n2 n3 n4
      generalize m_X6_nextBorder_5 17 c (nI a) (nI e) (nI 0) = R at n1 n2 n3 n4
      obtain ⟨b, hb, rfl⟩ := nI_of (x := R) (by rw [Int32.lt_iff_toInt_lt, show (0 : Int32).toInt = 0 by decide]; omega)
      rw [nI_toInt hb] at n1 n2 n3 n4
      have hconst : ∀ j, a ≤ j → j < b → (yok c need j ↔ yok c need a) := fun j h1 h2 => by
        have := y_dcong (c := c) (a := j) (b := a) (by omega) (by omega) (fun i hi => by have := n3 i (by omega) hi; omega) 16 0 (by omega)
        unfold yok
        rw [show m_X6_decider_2 17 c (nI j) (nI (j + 1)) 0 = m_X6_decider_2 17 c (nI a) (nI (a + 1)) 0 from this]
      have hrec := ih (k + 1) b (by omega) (by omega) (by
        rcases hi with hi | hi
        · exact absurd hi hea
        · by_cases hbe : e ≤ b
          · exact Or.inl hbe
          · right
            have hlt : yct (ybd c b e) 32 < yct (ybd c a e) 32 := by
              rcases n4 with n4 | ⟨j, hj, n4⟩
              · omega
              · have hk0 : ∃ k0, k0 < 32 ∧ yvl c k0 = b := by
                  rcases n4 with n4 | n4
                  · exact ⟨j, by omega, by unfold yvl; rw [if_pos hj]; exact n4.symm⟩
                  · exact ⟨j + 16, by omega, by unfold yvl; rw [if_neg (by omega), show j + 16 - 16 = j by omega]; exact n4.symm⟩
                obtain ⟨k0, hk0, ek⟩ := hk0
                refine yct_lt (k0 := k0) ?_ ?_ 32 hk0 ?_
                · unfold ybd; rw [ek]; exact decide_eq_true ⟨by omega, by omega⟩
                · unfold ybd; rw [ek]; exact decide_eq_false (by omega)
                · intro k' _ hp
                  unfold ybd at hp ⊢
                  have := of_decide_eq_true hp
                  exact decide_eq_true ⟨by omega, by omega⟩
            omega)
      by_cases o1 : m_X6_decider_2 17 c (nI a) (nI (a + 1)) 0 = -1
      · rw [if_pos o1]
        exact ⟨fun z => absurd z (by decide), fun z => absurd o1 (z a (by omega) (by omega)).1⟩
      · rw [if_neg o1]
        by_cases o2 : (c.1 4 (m_X6_decider_2 17 c (nI a) (nI (a + 1)) 0).toNatClampNeg &&& need) = need
        · rw [if_pos o2, hrec]
          constructor
          · intro z j h1 h2
            by_cases q : j < b
            · exact (hconst j h1 q).mpr ⟨o1, o2⟩
            · exact z j (by omega) h2
          · intro z j h1 h2
            exact z j (by omega) h2
        · rw [if_neg o2]
          exact ⟨fun z => absurd z (by decide), fun z => absurd (z a (by omega) (by omega)).2 o2⟩
theorem Q_each {n t : Nat} {u : Int32} {v : Int64} {c r : eb_St} (h : Q n t u v c r) {f m : Nat} (hf : f + m ≤ 65536) (need : Int32) : (m_X10_mayAll r (lN f) (lN m) need).1 = m_X6_letsEach c (nI f) (nI m) need ∧ Q n t u v c (m_X10_mayAll r (lN f) (lN m) need).2 ∧ rH r (m_X10_mayAll r (lN f) (lN m) need).2 := by
  obtain ⟨g1, g2, g3⟩ := Q_mayAll h hf need
  refine ⟨?_, g2, g3⟩
  have hl := h.1.2.2.2.2.2.2
  have e : m_X6_letsEach c (nI f) (nI m) need = m_X6_letsEach_11 34 c need (nI (f + m)) (nI f) (nI 0) := by
    unfold m_X6_letsEach
    dsimp only
    rw [nI_add]
    rfl
  have k := y_each (c := c) (fun i hi => by have := (hl i hi).2; unfold yfit at this; omega) (e := f + m) hf need 33 0 f (by omega) (by omega) (Or.inr (by have := yct_b (ybd c f (f + m : Nat)) 32; omega))
  rw [e]
  apply Bool.eq_iff_iff.mpr
  rw [g1]
  refine Iff.trans ?_ k.symm
  constructor
  · intro z j h1 h2
    have := z (j - f) (by omega)
    rw [show f + (j - f) = j by omega] at this
    exact this
  · intro z j hj
    exact z (f + j) (by omega) (by omega)
theorem y_all0 (r : eb_St) (a : Int64) (need : Int32) : m_X10_mayAll r a 0 need = (true, r) := by
  unfold m_X10_mayAll
  rw [show ((0 : Int64).toInt - (0 : Int64).toInt).toNat + 1 = 0 + 1 by decide, m_X10_mayAll_6, if_pos (by decide)]
