/-! create, and the host's calls -/
theorem y_rma {n t : Nat} {u : Int32} {v : Int64} {z r : eb_St} (h : Q n t u v z r) (hN : 0 < (z.2 11 1).toInt) (hS : z.2 11 6 = 0 ∨ 0 < (z.2 11 6).toInt) : m_X5_requestMeetsAnother z = true ↔ ∃ k, k < 6 ∧ ypm r (z.2 11 0) (z.2 11 1) (z.2 11 5) (z.2 11 6) k := by
  have hE := h.1.2.2.1
  have hG := h.1.2.2.2.2.1.2
  have b1 : m_X5_meetsLiveMemory z (z.2 11 0) (z.2 11 1) = true ↔ _ := y_mlm (c := z) (x := z.2 11 0) (y := z.2 11 1) 6 0 (by omega)
  have b2 : m_X5_meetsLiveShare z (z.2 11 0) (z.2 11 1) = true ↔ _ := y_mls (c := z) (x := z.2 11 0) (y := z.2 11 1) 6 0 (by omega)
  have b3 : m_X5_meetsLiveMemory z (z.2 11 5) (z.2 11 6) = true ↔ _ := y_mlm (c := z) (x := z.2 11 5) (y := z.2 11 6) 6 0 (by omega)
  have un : m_X5_requestMeetsAnother z = true ↔ (m_X5_meetsLiveMemory z (z.2 11 0) (z.2 11 1) = true ∨ m_X5_meetsLiveShare z (z.2 11 0) (z.2 11 1) = true ∨ (¬ z.2 11 6 = 0 ∧ m_X5_meetsLiveMemory z (z.2 11 5) (z.2 11 6) = true)) := by
    unfold m_X5_requestMeetsAnother
    cases m_X5_meetsLiveMemory z (z.2 11 0) (z.2 11 1)
    · cases m_X5_meetsLiveShare z (z.2 11 0) (z.2 11 1)
      · by_cases q : z.2 11 6 = 0
        · simp [q, eb_b]
        · cases m_X5_meetsLiveMemory z (z.2 11 5) (z.2 11 6) <;> simp [q, eb_b]
      · simp [eb_b]
    · simp [eb_b]
  have szp : ∀ k, k < 6 → ¬ r.1 6 k = 0 → 0 < ((r.1 8 k).toInt64).toInt := fun k hk hl => by
    obtain ⟨B, S, _, e2, _, _, _, e8⟩ := y_geo (hG k hk hl).1 (by omega)
    rw [e2, Int32.toInt_toInt64, nI_toInt (by omega)]; omega
  rw [un, b1, b2, b3]
  constructor
  · rintro (⟨e, _, he, hl, hm⟩ | ⟨e, _, he, hl, h6, hm⟩ | ⟨hs, e, _, he, hl, hm⟩)
    · obtain ⟨e1, e2, e3, _⟩ := hE e he
      rw [e1] at hl
      rw [e2, e3] at hm
      exact ⟨e, he, hl, Or.inl (by rw [y_meetP hN (szp e he hl)]; exact hm)⟩
    · obtain ⟨e1, _, _, _, e5, e6, _⟩ := hE e he
      rw [e1] at hl
      rw [e5, e6] at hm
      rw [e6] at h6
      refine ⟨e, he, hl, Or.inr (Or.inl ?_)⟩
      rcases (hG e he hl).2 with ⟨q, _⟩ | g
      · exact absurd q h6
      · obtain ⟨B, S, _, q2, _, _, _, q8⟩ := y_geo g (by omega)
        rw [y_meetP hN (by rw [q2, Int32.toInt_toInt64, nI_toInt (by omega)]; omega)]; exact hm
    · obtain ⟨e1, e2, e3, _⟩ := hE e he
      rw [e1] at hl
      rw [e2, e3] at hm
      exact ⟨e, he, hl, Or.inr (Or.inr (by rw [y_meetP (hS.resolve_left hs) (szp e he hl)]; exact hm))⟩
  · rintro ⟨e, he, hl, hm⟩
    obtain ⟨e1, e2, e3, _, e5, e6, _⟩ := hE e he
    rcases hm with hm | hm | hm
    · rw [y_meetP hN (szp e he hl)] at hm
      exact Or.inl ⟨e, by omega, he, by rw [e1]; exact hl, by rw [e2, e3]; exact hm⟩
    · right; left
      rcases (hG e he hl).2 with ⟨q, _⟩ | g
      · rw [q] at hm
        unfold m_X10_meet at hm
        rw [if_neg (show ¬ z.2 11 1 ≤ 0 by rw [Int64.le_iff_toInt_le, show (0 : Int64).toInt = 0 by decide]; omega), if_pos (by decide)] at hm
        exact absurd hm (by decide)
      · obtain ⟨B, S, _, q2, _, _, _, q8⟩ := y_geo g (by omega)
        rw [y_meetP hN (by rw [q2, Int32.toInt_toInt64, nI_toInt (by omega)]; omega)] at hm
        exact ⟨e, by omega, he, by rw [e1]; exact hl, by rw [e6, q2]; exact nI_ne0 (by omega) (by omega), by rw [e5, e6]; exact hm⟩
    · right; right
      rcases hS with q | q
      · rw [q] at hm
        unfold m_X10_meet at hm
        rw [if_pos (by decide)] at hm
        exact absurd hm (by decide)
      · rw [y_meetP q (szp e he hl)] at hm
        exact ⟨fun w => by rw [w] at q; exact absurd q (by decide), e, by omega, he, by rw [e1]; exact hl, by rw [e2, e3]; exact hm⟩
theorem y_cpF {Bg : eb_St} {X : Int32} {a m : Nat} (h : m = 0 ∨ ∃ i, X = nI i ∧ i + m ≤ 65536) (ha : a + m ≤ 65536) : cF Bg (m_X4_copy Bg X (nI a) (nI m)) := by
  rcases h with z0 | ⟨i, e, hi⟩
  · rw [z0, y_cp0]; exact cF_0 _
  · rw [e]; exact (y_copy Bg hi ha).1
theorem Q_create {n : Nat} {u : Int32} {v : Int64} {c r : eb_St} (h : Q n 6 u v c r) (hr : r.1 0 8 = -1) : (m_X5_create c).1 = (m_X10_create r).1 ∧ Q n 6 u v (m_X5_create c).2 (m_X10_create r).2 ∧ (m_X10_create r).2.1 0 8 = -1 := by
  have hset := y_set6 hr
  have x : ∀ j, j < 32 → m_X10_x r (nI j) = c.2 32 j := fun j hj => y_x h (s := 6) (by omega) hset (Or.inl rfl) hj
  rw [y_createR, show m_X10_x r 10 = c.2 32 10 from x 10 (by omega), show m_X10_x r 11 = c.2 32 11 from x 11 (by omega), show m_X10_x r 12 = c.2 32 12 from x 12 (by omega), show m_X10_x r 13 = c.2 32 13 from x 13 (by omega), show m_X10_x r 14 = c.2 32 14 from x 14 (by omega), show m_X10_x r 15 = c.2 32 15 from x 15 (by omega), show m_X10_x r 16 = c.2 32 16 from x 16 (by omega)]
  unfold m_X5_create
  dsimp only
  have z1 : (m_X8_take c 6).1 = c.1 := rfl
  have z2 : ∀ q b, ¬ q = 11 → (m_X8_take c 6).2 q b = c.2 q b := fun q b hq => by
    unfold m_X8_take
    dsimp only
    rw [pJ_o hq, pJ_o hq, pJ_o hq, pJ_o hq, pJ_o hq, pJ_o hq, pJ_o hq]
  have f0 : (m_X8_take c 6).2 11 0 = c.2 32 10 := rfl
  have f1 : (m_X8_take c 6).2 11 1 = c.2 32 11 := rfl
  have f2 : (m_X8_take c 6).2 11 2 = c.2 32 12 := rfl
  have f3 : (m_X8_take c 6).2 11 3 = c.2 32 13 := rfl
  have f4 : (m_X8_take c 6).2 11 4 = c.2 32 14 := rfl
  have f5 : (m_X8_take c 6).2 11 5 = c.2 32 15 := rfl
  have f6 : (m_X8_take c 6).2 11 6 = c.2 32 16 := rfl
  have hz : Q n 6 u v (m_X8_take c 6) r := Q_scr h z1 (fun q b _ h11 => z2 q b h11) (fun q b _ _ => rfl) (fun q b _ => rfl)
  generalize m_X8_take c 6 = z at z1 z2 f0 f1 f2 f3 f4 f5 f6 hz ⊢
  rw [y_toldC, ← f0, ← f1, ← f2, ← f3, ← f4, ← f5, ← f6]
  cases T : yrt (z.2 11 0) (z.2 11 1) (z.2 11 2) (z.2 11 3) (z.2 11 4) (z.2 11 5) (z.2 11 6) with
  | false =>
    rw [if_pos (show eb_b false = 0 by decide), if_neg (by decide)]
    exact ⟨rfl, hz, hr⟩
  | true =>
    rw [if_neg (show ¬ eb_b true = 0 by decide), if_pos rfl]
    obtain ⟨p, g, m, f, p5, p14, eN, eA, hg, eM, hm, hI, eF, hf, hS⟩ := y_toldF T
    have hp14 : 2 ^ p ≤ 2 ^ 14 := Nat.pow_le_pow_right (by decide) p14
    have hp5 : 2 ^ 5 ≤ 2 ^ p := Nat.pow_le_pow_right (by decide) p5
    obtain ⟨ss, hss, eS, hSx⟩ : ∃ ss : Nat, ss ≤ 4096 ∧ z.2 11 6 = lN ss ∧ (ss = 0 ∨ ∃ s w : Nat, 3 ≤ s ∧ s ≤ 12 ∧ ss = 2 ^ s ∧ z.2 11 5 = lN (2 ^ s * w) ∧ 2 ^ s * w + 2 ^ s ≤ 65536) := by
      rcases hS with q | ⟨s, w, s3, s12, e1, e2, e3⟩
      · exact ⟨0, by omega, q, Or.inl rfl⟩
      · have : 2 ^ s ≤ 2 ^ 12 := Nat.pow_le_pow_right (by decide) s12
        exact ⟨2 ^ s, by omega, e1, Or.inr ⟨s, w, s3, s12, rfl, e2, e3⟩⟩
    have hss0 : z.2 11 6 = 0 ↔ ss = 0 := by rw [eS]; exact pk_lEQ (b := 0) (by omega) (by omega)
    have hm0 : z.2 11 3 = 0 ↔ m = 0 := by rw [eM]; exact pk_lEQ (b := 0) (by omega) (by omega)
    have hrm := y_rma hz (by rw [eN, pk_lT (by omega)]; omega) (by
      rcases Nat.eq_zero_or_pos ss with q | q
      · exact Or.inl (hss0.mpr q)
      · exact Or.inr (by rw [eS, pk_lT (by omega)]; omega))
    rw [show (5 : Int32) = nI 6 - 1 by decide]
    rcases y_206 (r := r) (A := z.2 11 0) (N := z.2 11 1) (I := z.2 11 2) (M := z.2 11 3) (F := z.2 11 4) (W := z.2 11 5) (S := z.2 11 6) 6 (-1) (by omega) with ⟨pm, e206⟩ | ⟨pm, e206⟩
    · rw [show m_X10_create_206 7 r (z.2 11 0) (z.2 11 1) (z.2 11 2) (z.2 11 3) (z.2 11 4) (z.2 11 5) (z.2 11 6) (-1) (nI 6 - 1) = ((-2), r) from e206, hrm.mpr pm, if_neg (show ¬ eb_b true = 0 by decide)]
      exact ⟨rfl, hz, hr⟩
    · have hrf : m_X5_requestMeetsAnother z = false := by
        cases q : m_X5_requestMeetsAnother z with
        | false => rfl
        | true => exact absurd (hrm.mp q) pm
      rw [show m_X10_create_206 7 r (z.2 11 0) (z.2 11 1) (z.2 11 2) (z.2 11 3) (z.2 11 4) (z.2 11 5) (z.2 11 6) (-1) (nI 6 - 1) = _ from e206, hrf, if_pos (show eb_b false = 0 by decide)]
      obtain ⟨fr1, fr2⟩ := y_free (c := z) (r := r) (fun e he => (hz.1.2.2.1 e he).1)
      rw [← fr1]
      generalize m_X5_freePlace z = E at fr2 ⊢
      rw [m_X10_create_206, if_pos (show (-1 : Int32) < 0 by decide)]
      dsimp only
      unfold m_X5_hostMayGiveWhatIsRequested m_X5_hostMayGiveWhatIsRequested_68
      dsimp only
      -- the three rights
      have q1 := Q_each hz (f := 2 ^ p * g) (m := 2 ^ p) hg 3
      rw [eA, eN, lN_i, lN_i]
      obtain ⟨q1a, q1b, q1c⟩ := q1
      rw [q1a]
      generalize (m_X10_mayAll r (lN (2 ^ p * g)) (lN (2 ^ p)) 3).2 = r2 at q1b q1c ⊢
      cases m_X6_letsEach z (nI (2 ^ p * g)) (nI (2 ^ p)) 3 with
      | false => exact ⟨rfl, q1b, (q1c.1 0 8 (by omega)).trans hr⟩
      | true =>
        simp only [if_neg (show ¬ eb_b true = 0 by decide)]
        have q2 : ∃ b2 r3, m_X10_mayAll r2 (z.2 11 5) (z.2 11 6) 3 = (b2, r3) ∧ (if z.2 11 6 = 0 then true else m_X6_letsEach z (z.2 11 5).toInt32 (z.2 11 6).toInt32 3) = b2 ∧ Q n 6 u v z r3 ∧ rH r2 r3 := by
          rcases hSx with s0 | ⟨s, w, s3, s12, e1, e2, e3⟩
          · have e0 := hss0.mpr s0
            rw [e0, y_all0, if_pos rfl]
            exact ⟨true, r2, rfl, rfl, q1b, rH_0 r2⟩
          · have hp : 0 < 2 ^ s := Nat.two_pow_pos s
            have k := Q_each q1b (f := 2 ^ s * w) (m := 2 ^ s) e3 3
            rw [if_neg (fun q => by have := hss0.mp q; omega), e2, eS, e1, lN_i, lN_i]
            exact ⟨_, _, rfl, k.1.symm, k.2.1, k.2.2⟩
        obtain ⟨b2, r3, g1, g2, g3, g4⟩ := q2
        have cls : (if z.2 11 6 = 0 then (if z.2 11 3 = 0 then true else if eb_b (m_X6_letsEach z (z.2 11 2).toInt32 (z.2 11 3).toInt32 1) = 0 then false else true) else if eb_b (m_X6_letsEach z (z.2 11 5).toInt32 (z.2 11 6).toInt32 3) = 0 then false else (if z.2 11 3 = 0 then true else if eb_b (m_X6_letsEach z (z.2 11 2).toInt32 (z.2 11 3).toInt32 1) = 0 then false else true)) = (if eb_b b2 = 0 then false else (if z.2 11 3 = 0 then true else if eb_b (m_X6_letsEach z (z.2 11 2).toInt32 (z.2 11 3).toInt32 1) = 0 then false else true)) := by
          rw [← g2]
          by_cases q : z.2 11 6 = 0
          · rw [if_pos q, if_pos q, if_neg (show ¬ eb_b true = 0 by decide)]
          · rw [if_neg q, if_neg q]
        rw [cls, g1]
        dsimp only
        cases b2 with
        | false => exact ⟨rfl, g3, (g4.1 0 8 (by omega)).trans ((q1c.1 0 8 (by omega)).trans hr)⟩
        | true =>
          simp only [if_neg (show ¬ eb_b true = 0 by decide)]
          have q3 : ∃ b3 r4, m_X10_mayAll r3 (z.2 11 2) (z.2 11 3) 1 = (b3, r4) ∧ (if z.2 11 3 = 0 then true else if eb_b (m_X6_letsEach z (z.2 11 2).toInt32 (z.2 11 3).toInt32 1) = 0 then false else true) = b3 ∧ Q n 6 u v z r4 ∧ rH r3 r4 := by
            rcases hI with m0 | ⟨i, e2, e3⟩
            · have e0 := hm0.mpr m0
              rw [e0, y_all0, if_pos rfl]
              exact ⟨true, r3, rfl, rfl, g3, rH_0 r3⟩
            · by_cases m0 : m = 0
              · have e0 := hm0.mpr m0
                rw [e0, y_all0, if_pos rfl]
                exact ⟨true, r3, rfl, rfl, g3, rH_0 r3⟩
              · have k := Q_each g3 (f := i) (m := m) e3 1
                rw [if_neg (fun q => m0 (hm0.mp q)), e2, eM, lN_i, lN_i, ← k.1]
                refine ⟨(m_X10_mayAll r3 (lN i) (lN m) 1).1, _, rfl, ?_, k.2.1, k.2.2⟩
                cases (m_X10_mayAll r3 (lN i) (lN m) 1).1 <;> rfl
          obtain ⟨b3, r4, i1, i2, i3, i4⟩ := q3
          rw [i2, i1]
          dsimp only
          have h8 : r4.1 0 8 = -1 := (i4.1 0 8 (by omega)).trans ((g4.1 0 8 (by omega)).trans ((q1c.1 0 8 (by omega)).trans hr))
          cases b3 with
          | false => exact ⟨rfl, i3, h8⟩
          | true =>
            simp only [if_neg (show ¬ eb_b true = 0 by decide)]
            rcases fr2 with fe | ⟨k, hk, fe, fl⟩
            · rw [fe, if_pos rfl, if_pos rfl]
              exact ⟨rfl, i3, h8⟩
            · have hne : ¬ nI k = -1 := fun q => absurd (nI_pos (n := k) (by omega)) (by rw [q]; decide)
              rw [fe, if_neg hne, if_neg hne, nI_clamp (by omega)]
              have hSh2 : (if nI ss = 0 then 0 else (z.2 11 5).toInt32) = if (z.2 11 6).toInt32 = 0 then 0 else (z.2 11 5).toInt32 := by rw [eS, lN_i]
              have hsn : nI ss = 0 ↔ ss = 0 := nI_eq (b := 0) (by omega) (by omega)
              obtain ⟨m1, m2, m3⟩ := Q_made i3 hk (p := p) (g := g) (m := m) (f := f) (ss := ss) (Sh := if nI ss = 0 then 0 else (z.2 11 5).toInt32) p5 p14 eA eN hg eM hm hI eF hf eS hss rfl (by
                rcases hSx with s0 | ⟨s, w, s3, s12, e1, e2, e3⟩
                · have := hsn.mpr s0
                  exact Or.inl ⟨this, if_pos this⟩
                · have hp : 0 < 2 ^ s := Nat.two_pow_pos s
                  rw [if_neg (fun q => by have := hsn.mp q; omega), e2, lN_i, e1]
                  exact Or.inr ⟨s, w, s3, s12, rfl, rfl, e3⟩)
              have hB := y_beg z hk (m_X5_measureOfRequest z) (m_X5_keyOf z (m_X5_measureOfRequest z)) hSh2
              have b11 : ∀ b, (m_X2_begin z k (m_X5_measureOfRequest z) (m_X5_keyOf z (m_X5_measureOfRequest z))).2 11 b = z.2 11 b := fun b => by
                rw [hB, pJ_o (by omega)]
                show (if 11 = 26 + k ∧ _ then _ else _) = _
                rw [if_neg (by omega), pJ_o (by omega), pJ_o (by omega)]
                rfl
              have bb2 : (m_X2_begin z k (m_X5_measureOfRequest z) (m_X5_keyOf z (m_X5_measureOfRequest z))).1 (13 + k) 2 = nI (2 ^ p * g) := by
                rw [hB, eA, lN_i]
                simp [eb_pI, eb_pJ, fJ]
              have bb3 : (m_X2_begin z k (m_X5_measureOfRequest z) (m_X5_keyOf z (m_X5_measureOfRequest z))).1 (13 + k) 3 = nI (2 ^ p) := by
                rw [hB, eN, lN_i]
                simp [eb_pI, eb_pJ, fJ]
              have bb10 : (m_X2_begin z k (m_X5_measureOfRequest z) (m_X5_keyOf z (m_X5_measureOfRequest z))).1 10 10 = z.1 10 10 := by
                rw [hB]
                have hne10 : ¬ 10 = 13 + k := by omega
                simp [eb_pI, eb_pJ, fJ, hne10]
              generalize m_X2_begin z k (m_X5_measureOfRequest z) (m_X5_keyOf z (m_X5_measureOfRequest z)) = Bg at b11 bb2 bb3 bb10 m1 ⊢
              have hcp : cF Bg (m_X4_copy Bg (z.2 11 2).toInt32 (nI (2 ^ p * g)) (nI m)) := y_cpF (hI.imp id (fun ⟨i, e, hi⟩ => ⟨i, by rw [e, lN_i], hi⟩)) (by omega)
              have hzf := (y_zero (a := 2 ^ p * g + m) (b := 2 ^ p * g + 2 ^ p) (m_X4_copy Bg (z.2 11 2).toInt32 (nI (2 ^ p * g)) (nI m)) (by omega) hg (by
                obtain ⟨q, rfl⟩ : ∃ q, p = q + 3 := ⟨p - 3, by omega⟩
                have e3 : 2 ^ (q + 3) = 8 * 2 ^ q := by rw [Nat.pow_add]; omega
                have e4 : 2 ^ (q + 3) * g = 8 * (2 ^ q * g) := by rw [e3, Nat.mul_assoc]
                omega)).1.1
              have emm : (z.2 11 3).toInt32 = nI m := by rw [eM, lN_i]
              have eff : (z.2 11 4).toInt32 = nI f := by rw [eF, lN_i]
              have ess : (z.2 11 6).toInt32 = nI ss := by rw [eS, lN_i]
              have z16 : (m_X4_zero (m_X4_copy Bg (z.2 11 2).toInt32 (nI (2 ^ p * g)) (nI m)) (nI (2 ^ p * g) + nI m) (nI (2 ^ p * g) + nI (2 ^ p))).1 10 10 = z.1 10 10 := by
                rw [nI_add, nI_add, hzf, hcp.1, bb10]
              rw [b11, b11, bb2, emm, hcp.1, bb2, bb3, z16, eff, ess]
              have h8' := m2.trans h8
              have fin := Q_mk m1 (Or.inl h8') m3
              by_cases s0 : z.2 11 6 = 0
              · rw [if_pos s0]
                rw [if_pos (hsn.mpr (hss0.mp s0))] at fin h8'
                exact ⟨rfl, fin, h8'⟩
              · rw [if_neg s0]
                rw [if_neg (fun q => s0 (hss0.mpr (hsn.mp q)))] at fin h8'
                exact ⟨rfl, fin, h8'⟩
