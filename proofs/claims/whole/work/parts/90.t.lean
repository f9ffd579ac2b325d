/-! meetings, places, measures -/
theorem y_mlm {c : eb_St} {x y : Int64} : ∀ d k, k + d = 6 → (m_X5_meetsLiveMemory_3 (d + 1) c x y (nI k) = true ↔ ∃ e, k ≤ e ∧ e < 6 ∧ ¬ c.1 (13 + e) 1 = 0 ∧ m_X8_meet x y (c.1 (13 + e) 2).toInt64 (c.1 (13 + e) 3).toInt64 = true) := by
  intro d
  induction d with
  | zero =>
    intro k h
    rw [m_X5_meetsLiveMemory_3, if_pos (show (6 : Int32) ≤ nI k from nI_le (a := 6) (by omega) (by omega))]
    exact ⟨fun z => absurd z (by decide), fun ⟨e, h1, h2, _⟩ => absurd h2 (by omega)⟩
  | succ d ih =>
    intro k h
    have hn := ih (k + 1) (by omega)
    rw [m_X5_meetsLiveMemory_3, if_neg (show ¬ (6 : Int32) ≤ nI k from nI_ge (b := 6) (by omega) (by omega)), nI_clamp (by omega), nI_1]
    dsimp only
    by_cases h1 : c.1 (13 + k) 1 = 0
    · rw [if_pos h1, hn]
      exact ⟨fun ⟨e, a, b⟩ => ⟨e, by omega, b⟩, fun ⟨e, a, b, l, m⟩ => ⟨e, by
        rcases Nat.lt_or_ge k e with z | z
        · omega
        · have : e = k := by omega
          subst this
          exact absurd h1 l, b, l, m⟩⟩
    · rw [if_neg h1]
      cases hm : m_X8_meet x y (c.1 (13 + k) 2).toInt64 (c.1 (13 + k) 3).toInt64 with
      | false =>
        rw [if_pos (show eb_b false = 0 by decide), hn]
        exact ⟨fun ⟨e, a, b⟩ => ⟨e, by omega, b⟩, fun ⟨e, a, b, l, m⟩ => ⟨e, by
          rcases Nat.lt_or_ge k e with z | z
          · omega
          · have : e = k := by omega
            subst this
            rw [hm] at m
            exact absurd m (by decide), b, l, m⟩⟩
      | true =>
        rw [if_neg (show ¬ eb_b true = 0 by decide)]
        exact ⟨fun _ => ⟨k, by omega, by omega, h1, hm⟩, fun _ => rfl⟩
theorem y_mls {c : eb_St} {x y : Int64} : ∀ d k, k + d = 6 → (m_X5_meetsLiveShare_3 (d + 1) c x y (nI k) = true ↔ ∃ e, k ≤ e ∧ e < 6 ∧ ¬ c.1 (13 + e) 1 = 0 ∧ ¬ c.1 (13 + e) 6 = 0 ∧ m_X8_meet x y (c.1 (13 + e) 5).toInt64 (c.1 (13 + e) 6).toInt64 = true) := by
  intro d
  induction d with
  | zero =>
    intro k h
    rw [m_X5_meetsLiveShare_3, if_pos (show (6 : Int32) ≤ nI k from nI_le (a := 6) (by omega) (by omega))]
    exact ⟨fun z => absurd z (by decide), fun ⟨e, h1, h2, _⟩ => absurd h2 (by omega)⟩
  | succ d ih =>
    intro k h
    have hn := ih (k + 1) (by omega)
    rw [m_X5_meetsLiveShare_3, if_neg (show ¬ (6 : Int32) ≤ nI k from nI_ge (b := 6) (by omega) (by omega)), nI_clamp (by omega), nI_1]
    dsimp only
    have skip : (¬ (¬ c.1 (13 + k) 1 = 0 ∧ ¬ c.1 (13 + k) 6 = 0 ∧ m_X8_meet x y (c.1 (13 + k) 5).toInt64 (c.1 (13 + k) 6).toInt64 = true)) → ((m_X5_meetsLiveShare_3 (d + 1) c x y (nI (k + 1)) = true) ↔ ∃ e, k ≤ e ∧ e < 6 ∧ ¬ c.1 (13 + e) 1 = 0 ∧ ¬ c.1 (13 + e) 6 = 0 ∧ m_X8_meet x y (c.1 (13 + e) 5).toInt64 (c.1 (13 + e) 6).toInt64 = true) := fun hno => by
      rw [hn]
      exact ⟨fun ⟨e, a, b⟩ => ⟨e, by omega, b⟩, fun ⟨e, a, b, m⟩ => ⟨e, by
        rcases Nat.lt_or_ge k e with z | z
        · omega
        · have : e = k := by omega
          subst this
          exact absurd m hno, b, m⟩⟩
    by_cases h1 : c.1 (13 + k) 1 = 0
    · rw [if_pos h1]; exact skip (fun z => z.1 h1)
    · rw [if_neg h1]
      by_cases h6 : c.1 (13 + k) 6 = 0
      · rw [if_pos h6]; exact skip (fun z => z.2.1 h6)
      · rw [if_neg h6]
        cases hm : m_X8_meet x y (c.1 (13 + k) 5).toInt64 (c.1 (13 + k) 6).toInt64 with
        | false => exact skip (fun z => by rw [hm] at z; exact absurd z.2.2 (by decide))
        | true => exact ⟨fun _ => ⟨k, by omega, by omega, h1, h6, hm⟩, fun _ => rfl⟩
def ypm (r : eb_St) (A N W S : Int64) (k : Nat) : Prop := ¬ r.1 6 k = 0 ∧ (m_X10_meet A N (r.1 7 k).toInt64 (r.1 8 k).toInt64 = true ∨ m_X10_meet A N (r.1 10 k).toInt64 (r.1 11 k).toInt64 = true ∨ m_X10_meet W S (r.1 7 k).toInt64 (r.1 8 k).toInt64 = true)
def ysel (r : eb_St) : Nat → Int32 → Int32
  | 0, E => E
  | j + 1, E => if r.1 6 j = 0 then ysel r j (nI j) else ysel r j E
theorem y_206 {r : eb_St} {A N I M F W S : Int64} : ∀ (j : Nat) (E : Int32), j ≤ 6 → ((∃ k, k < j ∧ ypm r A N W S k) ∧ m_X10_create_206 (j + 1) r A N I M F W S E (nI j - 1) = ((-2), r)) ∨ ((¬ ∃ k, k < j ∧ ypm r A N W S k) ∧ m_X10_create_206 (j + 1) r A N I M F W S E (nI j - 1) = m_X10_create_206 1 r A N I M F W S (ysel r j E) (-1)) := by
  intro j
  induction j with
  | zero =>
    intro E _
    refine Or.inr ⟨fun ⟨k, h, _⟩ => absurd h (by omega), ?_⟩
    rw [show nI 0 - 1 = (-1 : Int32) by decide, ysel]
  | succ j ih =>
    intro E hj
    have ex : ∀ P : Prop, (P ↔ ypm r A N W S j) → ((∃ k, k < j + 1 ∧ ypm r A N W S k) ↔ (P ∨ ∃ k, k < j ∧ ypm r A N W S k)) := fun P hP => by
      rw [hP]
      constructor
      · rintro ⟨k, hk, hp⟩
        by_cases q : k = j
        · subst q; exact Or.inl hp
        · exact Or.inr ⟨k, by omega, hp⟩
      · rintro (hp | ⟨k, hk, hp⟩)
        · exact ⟨j, by omega, hp⟩
        · exact ⟨k, by omega, hp⟩
    have go : ¬ ypm r A N W S j → ∀ E', (m_X10_create_206 (j + 1 + 1) r A N I M F W S E (nI (j + 1) - 1) = m_X10_create_206 (j + 1) r A N I M F W S E' (nI j - 1)) → ysel r (j + 1) E = ysel r j E' → ((∃ k, k < j + 1 ∧ ypm r A N W S k) ∧ m_X10_create_206 (j + 1 + 1) r A N I M F W S E (nI (j + 1) - 1) = ((-2), r)) ∨ ((¬ ∃ k, k < j + 1 ∧ ypm r A N W S k) ∧ m_X10_create_206 (j + 1 + 1) r A N I M F W S E (nI (j + 1) - 1) = m_X10_create_206 1 r A N I M F W S (ysel r (j + 1) E) (-1)) := fun hno E' e1 e2 => by
      have hx := ex False ⟨fun z => z.elim, fun z => hno z⟩
      rcases ih E' (by omega) with ⟨g1, g2⟩ | ⟨g1, g2⟩
      · exact Or.inl ⟨hx.mpr (Or.inr g1), e1.trans g2⟩
      · refine Or.inr ⟨fun z => (hx.mp z).elim id g1, ?_⟩
        rw [e1, e2]; exact g2
    have un : m_X10_create_206 (j + 1 + 1) r A N I M F W S E (nI (j + 1) - 1) = (if r.1 6 j = 0 then m_X10_create_206 (j + 1) r A N I M F W S (nI j) (nI j - 1) else (if (eb_b (m_X10_meet A N (r.1 7 j).toInt64 (r.1 8 j).toInt64)) = 0 then (if (eb_b (m_X10_meet A N (r.1 10 j).toInt64 (r.1 11 j).toInt64)) = 0 then (if (eb_b (m_X10_meet W S (r.1 7 j).toInt64 (r.1 8 j).toInt64)) = 0 then m_X10_create_206 (j + 1) r A N I M F W S E (nI j - 1) else ((-2), r)) else ((-2), r)) else ((-2), r))) := by
      rw [m_X10_create_206, nI_pred, if_neg (nI_pos (by omega))]
      unfold m_X10_isLive
      rw [nI_clamp (by omega), show nI j + (-1) = nI j - 1 from (Int32.sub_eq_add_neg _ _).symm]
      dsimp only
      by_cases q : r.1 6 j = 0
      · rw [if_pos q, if_pos q, if_pos (show eb_b false = 0 by decide)]
      · rw [if_neg q, if_neg q, if_neg (show ¬ eb_b true = 0 by decide)]
    by_cases hl : r.1 6 j = 0
    · exact go (fun z => z.1 hl) (nI j) (by rw [un, if_pos hl]) (by rw [ysel, if_pos hl])
    · rw [if_neg hl] at un
      cases h1 : m_X10_meet A N (r.1 7 j).toInt64 (r.1 8 j).toInt64 with
      | true =>
        rw [h1, if_neg (show ¬ eb_b true = 0 by decide)] at un
        exact Or.inl ⟨⟨j, by omega, hl, Or.inl h1⟩, un⟩
      | false =>
        cases h2 : m_X10_meet A N (r.1 10 j).toInt64 (r.1 11 j).toInt64 with
        | true =>
          rw [h1, h2, if_pos (show eb_b false = 0 by decide), if_neg (show ¬ eb_b true = 0 by decide)] at un
          exact Or.inl ⟨⟨j, by omega, hl, Or.inr (Or.inl h2)⟩, un⟩
        | false =>
          cases h3 : m_X10_meet W S (r.1 7 j).toInt64 (r.1 8 j).toInt64 with
          | true =>
            rw [h1, h2, h3, if_pos (show eb_b false = 0 by decide), if_pos (show eb_b false = 0 by decide), if_neg (show ¬ eb_b true = 0 by decide)] at un
            exact Or.inl ⟨⟨j, by omega, hl, Or.inr (Or.inr h3)⟩, un⟩
          | false =>
            rw [h1, h2, h3, if_pos (show eb_b false = 0 by decide), if_pos (show eb_b false = 0 by decide), if_pos (show eb_b false = 0 by decide)] at un
            exact go (fun z => by
              rcases z.2 with z | z | z
              · rw [h1] at z; exact absurd z (by decide)
              · rw [h2] at z; exact absurd z (by decide)
              · rw [h3] at z; exact absurd z (by decide)) E un (by rw [ysel, if_neg hl])
theorem y_sel1 {r : eb_St} : ∀ (j : Nat) (E : Int32), (∀ k, k < j → ¬ r.1 6 k = 0) → ysel r j E = E := by
  intro j
  induction j with
  | zero => intro E _; rfl
  | succ j ih => intro E h; rw [ysel, if_neg (h j (by omega))]; exact ih E (fun k hk => h k (by omega))
theorem y_sel2 {r : eb_St} {e : Nat} (he : r.1 6 e = 0) (hb : ∀ k, k < e → ¬ r.1 6 k = 0) : ∀ (j : Nat) (E : Int32), e < j → ysel r j E = nI e := by
  intro j
  induction j with
  | zero => intro E h; exact absurd h (by omega)
  | succ j ih =>
    intro E h
    rw [ysel]
    by_cases q : e = j
    · subst q
      rw [if_pos he]
      exact y_sel1 e _ hb
    · by_cases z : r.1 6 j = 0
      · rw [if_pos z]; exact ih _ (by omega)
      · rw [if_neg z]; exact ih _ (by omega)
theorem y_fpl {c : eb_St} : ∀ d k, k + d = 6 → ((∀ e, k ≤ e → e < 6 → ¬ c.1 (13 + e) 1 = 0) ∧ m_X5_freePlace_2 (d + 1) c (nI k) = -1) ∨ ∃ e, k ≤ e ∧ e < 6 ∧ c.1 (13 + e) 1 = 0 ∧ (∀ i, k ≤ i → i < e → ¬ c.1 (13 + i) 1 = 0) ∧ m_X5_freePlace_2 (d + 1) c (nI k) = nI e := by
  intro d
  induction d with
  | zero =>
    intro k h
    rw [m_X5_freePlace_2, if_pos (show (6 : Int32) ≤ nI k from nI_le (a := 6) (by omega) (by omega))]
    exact Or.inl ⟨fun e h1 h2 => absurd h2 (by omega), rfl⟩
  | succ d ih =>
    intro k h
    rw [m_X5_freePlace_2, if_neg (show ¬ (6 : Int32) ≤ nI k from nI_ge (b := 6) (by omega) (by omega)), nI_clamp (by omega), nI_1]
    dsimp only
    by_cases q : c.1 (13 + k) 1 = 0
    · rw [if_pos q]
      exact Or.inr ⟨k, by omega, by omega, q, fun i h1 h2 => absurd h2 (by omega), rfl⟩
    · rw [if_neg q]
      have add : ∀ i, k ≤ i → (k + 1 ≤ i ∨ i = k) := fun i hi => by omega
      rcases ih (k + 1) (by omega) with ⟨g1, g2⟩ | ⟨e, g1, g2, g3, g4, g5⟩
      · refine Or.inl ⟨fun e h1 h2 => ?_, g2⟩
        rcases add e h1 with z | z
        · exact g1 e z h2
        · rw [z]; exact q
      · refine Or.inr ⟨e, by omega, g2, g3, fun i h1 h2 => ?_, g5⟩
        rcases add i h1 with z | z
        · exact g4 i z h2
        · rw [z]; exact q
theorem y_free {c r : eb_St} (hE : ∀ e, e < 6 → c.1 (13 + e) 1 = r.1 6 e) : m_X5_freePlace c = ysel r 6 (-1) ∧ (m_X5_freePlace c = -1 ∨ ∃ e, e < 6 ∧ m_X5_freePlace c = nI e ∧ r.1 6 e = 0) := by
  unfold m_X5_freePlace
  rcases y_fpl (c := c) 6 0 (by omega) with ⟨g1, g2⟩ | ⟨e, _, g2, g3, g4, g5⟩
  · have g2' : m_X5_freePlace_2 7 c 0 = -1 := g2
    rw [g2', y_sel1 6 (-1) (fun k hk => by rw [← hE k hk]; exact g1 k (by omega) hk)]
    exact ⟨rfl, Or.inl rfl⟩
  · have g5' : m_X5_freePlace_2 7 c 0 = nI e := g5
    rw [g5', y_sel2 (e := e) (by rw [← hE e g2]; exact g3) (fun k hk => by rw [← hE k (by omega)]; exact g4 k (by omega) hk) 6 (-1) g2]
    exact ⟨rfl, Or.inr ⟨e, g2, rfl, by rw [← hE e g2]; exact g3⟩⟩
