/-! the relation keeps the law -/
theorem lwRel_R : lw_R lwRel := by
  refine ⟨fun k c r h => h.1, fun k c r h => ⟨h.1, Q_mono h.2 (by omega)⟩, fun k c r v hk h => ⟨J_X10_reset rfl h.1, Q_mono (S_reset h.2 v) (by omega)⟩, fun k c r a v hk h => ?_, fun k c r a hk h => S_peek h.2 a, fun k c r hk h => ⟨J_X10_interrupt rfl h.1, Q_mono (S_int h.2) (by omega)⟩, fun k c r a hk h => ?_, fun k c r a hk h => S_reg h.2 a, fun k c r a hk h => S_state h.2 a, fun k c r a hk h => S_held h.2 a, fun k c r a b hk h => S_pmp h.2 a b, fun k c r a b hk h => S_enc h.2 a b, fun k c r a b hk h => S_eye h.2 a b⟩
  · obtain ⟨e, q⟩ := S_poke h.2 a v
    exact ⟨e, J_X10_poke rfl h.1, Q_mono q (by omega)⟩
  · obtain ⟨e, q⟩ := Q_runs y_host h.2 (by omega) a
    exact ⟨e, J_X10_run rfl h.1, Q_mono q (by omega)⟩
theorem lwRel_0 (v : Int64) : lwRel 0 (lw_c0 v) (lw_r0 v) := by
  have z0 : (0 : Int32).toInt = 0 := by decide
  have z0L : (0 : Int64).toInt = 0 := by decide
  have in32 : vp_in 0 32 := eb_in0 (by omega)
  have in8 : vp_in 0 8 := eb_in0 (by omega)
  have cI : ∀ q b, ¬ q = 0 → ¬ q = 9 → ¬ q = 10 → (lw_c0 v).1 q b = 0 := fun q b h0 h9 h10 => by simp [lw_c0, h0, h9, h10]
  have cJ : ∀ q b, ¬ q = 10 → (lw_c0 v).2 q b = 0 := fun q b h10 => by simp [lw_c0, h10]
  have rI : ∀ q b, ¬ q = 0 → (lw_r0 v).1 q b = 0 := fun q b h0 => by simp [lw_r0, h0]
  have rJ' : ∀ q b, ¬ q = 0 → (lw_r0 v).2 q b = 0 := fun q b h0 => by simp [lw_r0, h0]
  refine ⟨⟨Or.inl rfl, fun e he => ?_, in32, in32, in32, Or.inr rfl, in8, fun e he hl => absurd (rI 6 e (by omega)) hl, fun e he => ?_, fun i hi => ?_⟩, ⟨⟨fun p hp => ?_, fun s hs hl => ?_, fun e he => ?_, ?_, ⟨Or.inl rfl, fun e he hl => absurd (rI 6 e (by omega)) hl⟩, fun i h0 hi => ?_, fun i hi => ?_⟩, fun i hi => ?_, fun hf => absurd rfl hf⟩⟩
  · rw [rI 7 e (by omega), rI 8 e (by omega), z0]; omega
  · rw [rI 10 e (by omega), rI 11 e (by omega), z0]; omega
  · rw [rJ' 5 i (by omega), z0L]; omega
  · unfold cB rB
    rw [cJ 2 _ (by omega), rI 1 _ (by omega), yl_0, yb_0]
  · refine ⟨fun j hj => ?_, ?_⟩
    · rw [cJ _ _ (by omega), rJ' 2 _ (by omega)]
    · rw [cJ _ _ (by omega), rJ' 3 _ (by omega)]
      by_cases q : s = 6
      · rw [if_pos q]; decide
      · rw [if_neg q]; decide
  · have f : ∀ b, (lw_c0 v).1 (13 + e) b = 0 := fun b => cI _ _ (by omega) (by omega) (by omega)
    rw [f, f, f, f, f, f, f, f, rI 6 e (by omega), rI 7 e (by omega), rI 8 e (by omega), rI 9 e (by omega), rI 10 e (by omega), rI 11 e (by omega), rI 12 e (by omega), rI 13 e (by omega), cJ _ _ (by omega), rJ' 14 e (by omega), if_neg (show ¬ e = 6 by omega)]
    exact ⟨rfl, rfl, rfl, rfl, rfl, rfl, rfl, by decide, rfl, fun z => absurd rfl z⟩
  · exact ⟨rfl, rfl, rfl, rfl, rfl, rfl, rfl, rfl, rfl, rfl, rfl, rfl, Or.inl rfl, rfl, rfl, rfl, rfl, rfl, rfl, (by decide : (0 : Int32).toInt64 = (0 : Int64) + (if 6 < 6 then 1 else 0)), (by decide : (if 6 < 6 then (1 : Int) else 0) ≤ (0 : Int32).toInt), (by decide : (0 : Int32).toInt ≤ ((5000 * 0 : Nat) : Int))⟩
  · rw [cI 4 i (by omega) (by omega) (by omega), cJ 5 i (by omega), rI 4 i (by omega), rJ' 5 i (by omega)]
    exact ⟨rfl, rfl⟩
  · have ep : ypc (lw_c0 v) i = 0 := by
      unfold ypc
      by_cases q : i = 0
      · rw [if_pos q]
      · rw [if_neg q, cJ 5 _ (by omega)]
    rw [cI 4 i (by omega) (by omega) (by omega), cI 6 i (by omega) (by omega) (by omega), cI 7 i (by omega) (by omega) (by omega), cJ 5 i (by omega), ep]
    exact ⟨yad_0, y_zfit⟩
  · rw [cI 4 i (by omega) (by omega) (by omega), cJ 5 i (by omega)]
    have h6 : i < 6 ∨ i = 6 ∨ i = 7 := by omega
    have r8 : (lw_r0 v).1 0 8 = -1 := rfl
    rcases h6 with q | rfl | rfl
    · rw [y_bt q, y_at q, if_pos (rI 6 i (by omega)), if_pos (rI 6 i (by omega))]
      exact ⟨rfl, rfl⟩
    · have b6 : m_X10_byteOf (lw_r0 v) (nI 6) = 0 := by rw [y_bt6, r8]; exact if_pos (by decide)
      rw [y_at6, b6]
      exact ⟨rfl, rfl⟩
    · rw [y_bt7, y_at7, r8]
      exact ⟨rfl, rfl⟩
