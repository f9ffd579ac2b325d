def m_J13_compare_74951 (a0 : Int64) (a1 : Int64) : Int32 := (if a1 ≤ a0 then (if a0 = a1 then 0 else 1) else (-1))

def m_J13_compareUnsigned_74951 (a0 : Int64) (a1 : Int64) : Int32 := (fun (z1 : Int32) => z1) (m_J13_compare_74951 (a0 + (-9223372036854775808)) (a1 + (-9223372036854775808)))

def m_J9_multiplyHigh_f86c9 (a0 : Int64) (a1 : Int64) : Int64 := (fun (x1 : Int64) => (fun (x2 : Int64) => (fun (x3 : Int64) => (fun (x4 : Int64) => (fun (x5 : Int64) => (fun (x6 : Int64) => (fun (x7 : Int64) => (fun (x8 : Int64) => (fun (x9 : Int64) => ((x1 * x3) + x8) + (eb_lshr x9 32)) (x7 + (x2 * x3))) (eb_lshr x6 32)) (x6 &&& 4294967295)) ((x1 * x4) + (eb_lushr x5 32))) (x2 * x4)) (a1 &&& 4294967295)) (eb_lshr a1 32)) (a0 &&& 4294967295)) (eb_lshr a0 32)

def m_J7_rangeCheck_23922 (a0 : Int32) (a1 : Int32) (a2 : Int32) : Unit := ()

def m_J7_fill_d0a16_6 (a0 : Nat) (ma0 : Nat) : Nat → eb_St → Int64 → Int32 → Int32 → eb_St
  | 0, σ, _, _, _ => σ
  | n + 1, σ, v1, v3, v4 => (if v4 ≤ v3 then σ else (fun (x3 : Int32) => m_J7_fill_d0a16_6 a0 ma0 n (eb_pJ σ a0 v3.toNatClampNeg v1) v1 x3 v4) (v3 + 1))
def m_J7_fill_d0a16 (σ : eb_St) (a0 : Nat) (ma0 : Nat) (a1 : Int64) : eb_St := (fun (x1 : Int32) => m_J7_fill_d0a16_6 a0 ma0 ((x1.toInt - (0 : Int32).toInt).toNat + 1) σ a1 0 x1) (Int32.ofNat ma0)

def m_J7_fill_53178_5 (a0 : Nat) (ma0 : Nat) : Nat → eb_St → Int32 → Int32 → Int32 → eb_St
  | 0, σ, _, _, _ => σ
  | n + 1, σ, v1, v2, v3 => (if v3 ≤ v2 then σ else (fun (x3 : Int32) => m_J7_fill_53178_5 a0 ma0 n (eb_pI σ a0 v2.toNatClampNeg v1) v1 x3 v3) (v2 + 1))
def m_J7_fill_53178 (σ : eb_St) (a0 : Nat) (ma0 : Nat) (a1 : Int32) : eb_St := (fun (x1 : Int32) => m_J7_fill_53178_5 a0 ma0 ((x1.toInt - (0 : Int32).toInt).toNat + 1) σ a1 0 x1) (Int32.ofNat ma0)

def m_J7_fill_bad5a_10 (a0 : Nat) (ma0 : Nat) : Nat → eb_St → Int32 → Int64 → Int32 → eb_St
  | 0, σ, _, _, _ => σ
  | n + 1, σ, v2, v3, v5 => (if v2 ≤ v5 then σ else (fun (x3 : Int32) => m_J7_fill_bad5a_10 a0 ma0 n (eb_pJ σ a0 v5.toNatClampNeg v3) v2 v3 x3) (v5 + 1))
def m_J7_fill_bad5a (σ : eb_St) (a0 : Nat) (ma0 : Nat) (a1 : Int32) (a2 : Int32) (a3 : Int64) : eb_St := m_J7_fill_bad5a_10 a0 ma0 ((a2.toInt - a1.toInt).toNat + 1) σ a2 a3 a1

def m_X4_shift (a0 : Int32) : Int32 := (a0 &&& 7) <<< (3 &&& 31)

def m_X4_mask (a0 : Int32) : Int64 := (if a0 < 8 then (eb_lshl 1 (a0 <<< (3 &&& 31))) - 1 else (-1))

def m_X4_load (σ : eb_St) (a0 : Int32) (a1 : Int32) : Int64 := (fun (z1 : Int32) => (fun (z2 : Int64) => (eb_lushr (σ.2 2 ((eb_iushr a0 3) &&& 8191).toNatClampNeg) z1) &&& z2) (m_X4_mask a1)) (m_X4_shift a0)

def m_X4_store (σ : eb_St) (a0 : Int32) (a1 : Int32) (a2 : Int64) : eb_St := (fun (x1 : Int32) => (fun (z2 : Int64) => (fun (z3 : Int32) => (fun (x4 : Int64) => (fun (z5 : Int32) => (fun (x6 : Int64) => eb_pJ σ 2 x1.toNatClampNeg x6) (((σ.2 2 x1.toNatClampNeg) &&& (x4 ^^^ (-1))) ||| ((eb_lshl a2 z5) &&& x4))) (m_X4_shift a0)) (eb_lshl z2 z3)) (m_X4_shift a0)) (m_X4_mask a1)) ((eb_iushr a0 3) &&& 8191)

def m_X4_zero_27  (σ : eb_St) (v2 : Int32) (v3 : Int32) : eb_St := (if v3 < 0 then σ else (if v2 ≤ v3 then σ else (if (65536 : Int32) < v2 then σ else (fun (z8 : eb_St) => z8) (m_J7_fill_bad5a σ 2 8192 (v3 / 8) (v2 / 8) 0))))
def m_X4_zero_2  : Nat → eb_St → Int32 → Int32 → eb_St
  | 0, σ, _, _ => σ
  | n + 1, σ, v2, v3 => (if v2 ≤ v3 then m_X4_zero_27  σ v2 v3 else (if (v3 &&& 7) = 0 then m_X4_zero_27  σ v2 v3 else (fun (z3 : eb_St) => (fun (x4 : Int32) => m_X4_zero_2  n z3 v2 x4) (v3 + 1)) (m_X4_store σ v3 1 0)))
def m_X4_zero (σ : eb_St) (a0 : Int32) (a1 : Int32) : eb_St := m_X4_zero_2  ((a1.toInt - a0.toInt).toNat + 1) σ a1 a0

def m_X4_copy_8  : Nat → eb_St → Int32 → Int32 → Int32 → Int32 → eb_St
  | 0, σ, _, _, _, _ => σ
  | n + 1, σ, v1, v2, v3, v4 => (if v3 ≤ v4 then σ else (fun (z8 : Int64) => (fun (z9 : eb_St) => (fun (x10 : Int32) => m_X4_copy_8  n z9 v1 v2 v3 x10) (v4 + 1)) (m_X4_store σ (v2 + v4) 1 z8)) (m_X4_load σ (v1 + v4) 1))
def m_X4_copy_46  : Nat → eb_St → Int32 → Int32 → Int32 → eb_St
  | 0, σ, _, _, _ => σ
  | n + 1, σ, v1, v2, v4 => (if v4 < 0 then σ else (fun (z4 : Int64) => (fun (z5 : eb_St) => (fun (x6 : Int32) => m_X4_copy_46  n z5 v1 v2 x6) (v4 + (-1))) (m_X4_store σ (v2 + v4) 1 z4)) (m_X4_load σ (v1 + v4) 1))
def m_X4_copy (σ : eb_St) (a0 : Int32) (a1 : Int32) (a2 : Int32) : eb_St := (if a0 ≤ a1 then (fun (x2 : Int32) => m_X4_copy_46  ((x2.toInt + 1).toNat + 1) σ a0 a1 x2) (a2 - 1) else m_X4_copy_8  ((a2.toInt - (0 : Int32).toInt).toNat + 1) σ a0 a1 a2 0)

def m_X7_get (σ : eb_St) (r : Nat) (a0 : Int32) : Int64 := σ.2 (26 + r) (a0 &&& 31).toNatClampNeg

def m_X7_set (σ : eb_St) (r : Nat) (a0 : Int32) (a1 : Int64) : eb_St := (if (a0 &&& 31) = 0 then σ else eb_pJ σ (26 + r) ((a0 &&& 31).toNatClampNeg) a1)

def m_X7_clear (σ : eb_St) (r : Nat) (a0 : Int64) : eb_St := (fun (z1 : eb_St) => eb_pJ z1 (19 + r) 1 a0) (m_J7_fill_d0a16 σ (26 + r) 32 0)
set_option maxHeartbeats 4000000 in
set_option maxRecDepth 100000 in
theorem c_J13_compare_74951 (l : Launch) (D : va_G) (cy : Nat → ClassId) (ad : Nat → Nat) (σ : eb_St) (a0 : Int64) (a1 : Int64)  : eb_M l yJ13_compare_74951 (Cond.code yJ13_compare_74951 cJ13_compare_74951 4 (some .int) :: wsL_law) 0 0 D 33 cy cL ad σ [.long a0, .long a1] (some (.int (m_J13_compare_74951 a0 a1))) σ := by
  refine eb_start (own := RJ13) (by decide) rfl rfl (Nat.le_of_ble_eq_true rfl) ?_
  intro p e s m args below meth c A ls X hw hl
  have hl : lv_has ls 4 [(0, .long a0), (2, .long a1)] := hl
  have hx := X.1.1
  have hb := X.1.2.1
  have hown := X.1.2.2.2.1
  have hts := X.1.2.2.2.2
  generalize hm : m_J13_compare_74951 a0 a1 = mm
  have hm : (if a1 ≤ a0 then (if a0 = a1 then 0 else 1) else (-1)) = mm := hm
  refine lv_lload_n hx hb dJ13_compare_74951_0 rfl (lv_at hl 0 rfl) ?_
  refine lv_lload_n hx hb dJ13_compare_74951_1 rfl (lv_at hl 1 rfl) ?_
  refine eb_lif_ge (tgt := 10) hx hb dJ13_compare_74951_2 dJ13_compare_74951_3 (by decide) (fun h1 => ?_) (fun h1 => ?_)
  · have hm := (if_pos h1).symm.trans hm
    refine lv_lload_n hx hb dJ13_compare_74951_10 rfl (lv_at hl 0 rfl) ?_
    refine lv_lload_n hx hb dJ13_compare_74951_11 rfl (lv_at hl 1 rfl) ?_
    refine eb_lif_ne (tgt := 20) hx hb dJ13_compare_74951_12 dJ13_compare_74951_13 (by decide) (fun h2 => ?_) (fun h2 => ?_)
    · have hm := (if_neg h2).symm.trans hm
      refine lv_iconst (v := 1) hx hb dJ13_compare_74951_20 (by decide) ?_
      subst hm
      exact eb_iret X hw rfl rfl rfl dJ13_compare_74951_21
    · have hm := (if_pos h2).symm.trans hm
      refine lv_iconst (v := 0) hx hb dJ13_compare_74951_16 (by decide) ?_
      refine lv_goto (tgt := 21) hx hb dJ13_compare_74951_17 (by decide) ?_
      subst hm
      exact eb_iret X hw rfl rfl rfl dJ13_compare_74951_21
  · have hm := (if_neg h1).symm.trans hm
    refine lv_iconst (v := (-1)) hx hb dJ13_compare_74951_6 (by decide) ?_
    refine lv_goto (tgt := 21) hx hb dJ13_compare_74951_7 (by decide) ?_
    subst hm
    exact eb_iret X hw rfl rfl rfl dJ13_compare_74951_21

set_option maxHeartbeats 4000000 in
set_option maxRecDepth 100000 in
theorem c_J13_compareUnsigned_74951 (l : Launch) (D : va_G) (cy : Nat → ClassId) (ad : Nat → Nat) (σ : eb_St) (a0 : Int64) (a1 : Int64)  : eb_M l yJ13_compareUnsigned_74951 (Cond.code yJ13_compareUnsigned_74951 cJ13_compareUnsigned_74951 4 (some .int) :: wsL_law) 1 23 D 33 cy cL ad σ [.long a0, .long a1] (some (.int (m_J13_compareUnsigned_74951 a0 a1))) σ := by
  refine eb_start (own := RJ13) (by decide) rfl rfl (Nat.le_of_ble_eq_true rfl) ?_
  intro p e s m args below meth c A ls X hw hl
  have hl : lv_has ls 4 [(0, .long a0), (2, .long a1)] := hl
  have hx := X.1.1
  have hb := X.1.2.1
  have hown := X.1.2.2.2.1
  have hts := X.1.2.2.2.2
  generalize hm : m_J13_compareUnsigned_74951 a0 a1 = mm
  have hm : (fun (z1 : Int32) => z1) (m_J13_compare_74951 (a0 + (-9223372036854775808)) (a1 + (-9223372036854775808))) = mm := hm
  refine lv_lload_n hx hb dJ13_compareUnsigned_74951_0 rfl (lv_at hl 0 rfl) ?_
  refine lv_ldc2 hx hb hown (hts _ (List.mem_cons_of_mem _ wi_17_0)) dJ13_compareUnsigned_74951_1 ?_
  refine lv_ladd hx hb dJ13_compareUnsigned_74951_4 ?_
  refine lv_lload_n hx hb dJ13_compareUnsigned_74951_5 rfl (lv_at hl 1 rfl) ?_
  refine lv_ldc2 hx hb hown (hts _ (List.mem_cons_of_mem _ wi_17_0)) dJ13_compareUnsigned_74951_6 ?_
  refine lv_ladd hx hb dJ13_compareUnsigned_74951_9 ?_
  obtain ⟨z1, qz1⟩ : ∃ t : Int32, t = m_J13_compare_74951 (a0 + (-9223372036854775808)) (a1 + (-9223372036854775808)) := ⟨_, rfl⟩
  have hm : z1 = mm := by rw [qz1]; exact hm
  have hc : eb_M l yJ13_compare_74951 (Cond.code yJ13_compare_74951 cJ13_compare_74951 4 (some .int) :: wsL_law) 0 0 D 33 cy cL ad σ [.long (a0 + (-9223372036854775808)), .long (a1 + (-9223372036854775808))] (some (.int z1)) σ := by rw [qz1]; exact c_J13_compare_74951 l D cy ad σ (a0 + (-9223372036854775808)) (a1 + (-9223372036854775808))
  refine eb_callS (n := 2) X hw hl.1 (rest := []) hc (eb_goodS wi_17_1 wi_17_2 wi_16_22 wi_17_3) rfl (by decide +kernel) ⟨by decide, by decide⟩ rfl rfl (Nat.le_of_ble_eq_true rfl) dJ13_compareUnsigned_74951_10 ⟨by decide, by decide⟩ (st' := [.int z1]) rfl (fun H locs hw => ?_)
  subst hm
  exact eb_iret X hw rfl rfl rfl dJ13_compareUnsigned_74951_13

set_option maxHeartbeats 4000000 in
set_option maxRecDepth 100000 in
theorem c_J9_multiplyHigh_f86c9 (l : Launch) (D : va_G) (cy : Nat → ClassId) (ad : Nat → Nat) (σ : eb_St) (a0 : Int64) (a1 : Int64)  : eb_M l yJ9_multiplyHigh_f86c9 (Cond.code yJ9_multiplyHigh_f86c9 cJ9_multiplyHigh_f86c9 20 (some .long) :: wsL_law) 0 0 D 33 cy cL ad σ [.long a0, .long a1] (some (.long (m_J9_multiplyHigh_f86c9 a0 a1))) σ := by
  refine eb_startF (own := RJ9) (by decide +kernel) rfl rfl (Nat.le_of_ble_eq_true rfl) ?_
  intro p e s m args below meth c A ls X hw hl
  have hl : lv_has ls 20 [(0, .long a0), (2, .long a1)] := hl
  have hx := X.1.1
  have hb := X.1.2.1
  have hown := X.1.2.2.2.1
  have hts := X.1.2.2.2.2
  generalize hm : m_J9_multiplyHigh_f86c9 a0 a1 = mm
  have hm : (fun (x1 : Int64) => (fun (x2 : Int64) => (fun (x3 : Int64) => (fun (x4 : Int64) => (fun (x5 : Int64) => (fun (x6 : Int64) => (fun (x7 : Int64) => (fun (x8 : Int64) => (fun (x9 : Int64) => ((x1 * x3) + x8) + (eb_lshr x9 32)) (x7 + (x2 * x3))) (eb_lshr x6 32)) (x6 &&& 4294967295)) ((x1 * x4) + (eb_lushr x5 32))) (x2 * x4)) (a1 &&& 4294967295)) (eb_lshr a1 32)) (a0 &&& 4294967295)) (eb_lshr a0 32) = mm := hm
  refine lv_lload_n hx hb dJ9_multiplyHigh_f86c9_0 rfl (lv_at hl 0 rfl) ?_
  refine lv_bipush (v := 32) hx hb dJ9_multiplyHigh_f86c9_1 (by decide) ?_
  refine lv_lshr (v := eb_lshr a0 32) hx hb dJ9_multiplyHigh_f86c9_3 rfl ?_
  refine lv_topl (fun x1 ex1 => ?_)
  have hm : (fun (x2 : Int64) => (fun (x3 : Int64) => (fun (x4 : Int64) => (fun (x5 : Int64) => (fun (x6 : Int64) => (fun (x7 : Int64) => (fun (x8 : Int64) => (fun (x9 : Int64) => ((x1 * x3) + x8) + (eb_lshr x9 32)) (x7 + (x2 * x3))) (eb_lshr x6 32)) (x6 &&& 4294967295)) ((x1 * x4) + (eb_lushr x5 32))) (x2 * x4)) (a1 &&& 4294967295)) (eb_lshr a1 32)) (a0 &&& 4294967295) = mm := by rw [ex1]; exact hm
  refine lv_lstore (lv' := [(4, .long x1), (0, .long a0), (2, .long a1)]) hx hb dJ9_multiplyHigh_f86c9_4 hl (by decide) rfl (fun ls hl => ?_)
  refine lv_lload_n hx hb dJ9_multiplyHigh_f86c9_6 rfl (lv_at hl 1 rfl) ?_
  refine lv_ldc2 hx hb hown (hts _ (List.mem_cons_of_mem _ wi_18_6)) dJ9_multiplyHigh_f86c9_7 ?_
  refine lv_land hx hb dJ9_multiplyHigh_f86c9_10 ?_
  refine lv_topl (fun x2 ex2 => ?_)
  have hm : (fun (x3 : Int64) => (fun (x4 : Int64) => (fun (x5 : Int64) => (fun (x6 : Int64) => (fun (x7 : Int64) => (fun (x8 : Int64) => (fun (x9 : Int64) => ((x1 * x3) + x8) + (eb_lshr x9 32)) (x7 + (x2 * x3))) (eb_lshr x6 32)) (x6 &&& 4294967295)) ((x1 * x4) + (eb_lushr x5 32))) (x2 * x4)) (a1 &&& 4294967295)) (eb_lshr a1 32) = mm := by rw [ex2]; exact hm
  refine lv_lstore (lv' := [(6, .long x2), (4, .long x1), (0, .long a0), (2, .long a1)]) hx hb dJ9_multiplyHigh_f86c9_11 hl (by decide) rfl (fun ls hl => ?_)
  refine lv_lload_n hx hb dJ9_multiplyHigh_f86c9_13 rfl (lv_at hl 3 rfl) ?_
  refine lv_bipush (v := 32) hx hb dJ9_multiplyHigh_f86c9_14 (by decide) ?_
  refine lv_lshr (v := eb_lshr a1 32) hx hb dJ9_multiplyHigh_f86c9_16 rfl ?_
  refine lv_topl (fun x3 ex3 => ?_)
  have hm : (fun (x4 : Int64) => (fun (x5 : Int64) => (fun (x6 : Int64) => (fun (x7 : Int64) => (fun (x8 : Int64) => (fun (x9 : Int64) => ((x1 * x3) + x8) + (eb_lshr x9 32)) (x7 + (x2 * x3))) (eb_lshr x6 32)) (x6 &&& 4294967295)) ((x1 * x4) + (eb_lushr x5 32))) (x2 * x4)) (a1 &&& 4294967295) = mm := by rw [ex3]; exact hm
  refine lv_lstore (lv' := [(8, .long x3), (6, .long x2), (4, .long x1), (0, .long a0), (2, .long a1)]) hx hb dJ9_multiplyHigh_f86c9_17 hl (by decide) rfl (fun ls hl => ?_)
  refine lv_lload_n hx hb dJ9_multiplyHigh_f86c9_19 rfl (lv_at hl 4 rfl) ?_
  refine lv_ldc2 hx hb hown (hts _ (List.mem_cons_of_mem _ wi_18_6)) dJ9_multiplyHigh_f86c9_20 ?_
  refine lv_land hx hb dJ9_multiplyHigh_f86c9_23 ?_
  refine lv_topl (fun x4 ex4 => ?_)
  have hm : (fun (x5 : Int64) => (fun (x6 : Int64) => (fun (x7 : Int64) => (fun (x8 : Int64) => (fun (x9 : Int64) => ((x1 * x3) + x8) + (eb_lshr x9 32)) (x7 + (x2 * x3))) (eb_lshr x6 32)) (x6 &&& 4294967295)) ((x1 * x4) + (eb_lushr x5 32))) (x2 * x4) = mm := by rw [ex4]; exact hm
  refine lv_lstore (lv' := [(10, .long x4), (8, .long x3), (6, .long x2), (4, .long x1), (0, .long a0), (2, .long a1)]) hx hb dJ9_multiplyHigh_f86c9_24 hl (by decide) rfl (fun ls hl => ?_)
  refine lv_lload hx hb dJ9_multiplyHigh_f86c9_26 (lv_at hl 2 rfl) ?_
  refine lv_lload hx hb dJ9_multiplyHigh_f86c9_28 (lv_at hl 0 rfl) ?_
  refine lv_lmul hx hb dJ9_multiplyHigh_f86c9_30 ?_
  refine lv_topl (fun x5 ex5 => ?_)
  have hm : (fun (x6 : Int64) => (fun (x7 : Int64) => (fun (x8 : Int64) => (fun (x9 : Int64) => ((x1 * x3) + x8) + (eb_lshr x9 32)) (x7 + (x2 * x3))) (eb_lshr x6 32)) (x6 &&& 4294967295)) ((x1 * x4) + (eb_lushr x5 32)) = mm := by rw [ex5]; exact hm
  refine lv_lstore (lv' := [(12, .long x5), (10, .long x4), (8, .long x3), (6, .long x2), (4, .long x1), (0, .long a0), (2, .long a1)]) hx hb dJ9_multiplyHigh_f86c9_31 hl (by decide) rfl (fun ls hl => ?_)
  refine lv_lload hx hb dJ9_multiplyHigh_f86c9_33 (lv_at hl 4 rfl) ?_
  refine lv_lload hx hb dJ9_multiplyHigh_f86c9_35 (lv_at hl 1 rfl) ?_
  refine lv_lmul hx hb dJ9_multiplyHigh_f86c9_37 ?_
  refine lv_lload hx hb dJ9_multiplyHigh_f86c9_38 (lv_at hl 0 rfl) ?_
  refine lv_bipush (v := 32) hx hb dJ9_multiplyHigh_f86c9_40 (by decide) ?_
  refine lv_lushr (v := eb_lushr x5 32) hx hb dJ9_multiplyHigh_f86c9_42 rfl ?_
  refine lv_ladd hx hb dJ9_multiplyHigh_f86c9_43 ?_
  refine lv_topl (fun x6 ex6 => ?_)
  have hm : (fun (x7 : Int64) => (fun (x8 : Int64) => (fun (x9 : Int64) => ((x1 * x3) + x8) + (eb_lshr x9 32)) (x7 + (x2 * x3))) (eb_lshr x6 32)) (x6 &&& 4294967295) = mm := by rw [ex6]; exact hm
  refine lv_lstore (lv' := [(14, .long x6), (12, .long x5), (10, .long x4), (8, .long x3), (6, .long x2), (4, .long x1), (0, .long a0), (2, .long a1)]) hx hb dJ9_multiplyHigh_f86c9_44 hl (by decide) rfl (fun ls hl => ?_)
  refine lv_lload hx hb dJ9_multiplyHigh_f86c9_46 (lv_at hl 0 rfl) ?_
  refine lv_ldc2 hx hb hown (hts _ (List.mem_cons_of_mem _ wi_18_6)) dJ9_multiplyHigh_f86c9_48 ?_
  refine lv_land hx hb dJ9_multiplyHigh_f86c9_51 ?_
  refine lv_topl (fun x7 ex7 => ?_)
  have hm : (fun (x8 : Int64) => (fun (x9 : Int64) => ((x1 * x3) + x8) + (eb_lshr x9 32)) (x7 + (x2 * x3))) (eb_lshr x6 32) = mm := by rw [ex7]; exact hm
  refine lv_lstore (lv' := [(16, .long x7), (14, .long x6), (12, .long x5), (10, .long x4), (8, .long x3), (6, .long x2), (4, .long x1), (0, .long a0), (2, .long a1)]) hx hb dJ9_multiplyHigh_f86c9_52 hl (by decide) rfl (fun ls hl => ?_)
  refine lv_lload hx hb dJ9_multiplyHigh_f86c9_54 (lv_at hl 1 rfl) ?_
  refine lv_bipush (v := 32) hx hb dJ9_multiplyHigh_f86c9_56 (by decide) ?_
  refine lv_lshr (v := eb_lshr x6 32) hx hb dJ9_multiplyHigh_f86c9_58 rfl ?_
  refine lv_topl (fun x8 ex8 => ?_)
  have hm : (fun (x9 : Int64) => ((x1 * x3) + x8) + (eb_lshr x9 32)) (x7 + (x2 * x3)) = mm := by rw [ex8]; exact hm
  refine lv_lstore (lv' := [(18, .long x8), (16, .long x7), (14, .long x6), (12, .long x5), (10, .long x4), (8, .long x3), (6, .long x2), (4, .long x1), (0, .long a0), (2, .long a1)]) hx hb dJ9_multiplyHigh_f86c9_59 hl (by decide) rfl (fun ls hl => ?_)
  refine lv_lload hx hb dJ9_multiplyHigh_f86c9_61 (lv_at hl 1 rfl) ?_
  refine lv_lload hx hb dJ9_multiplyHigh_f86c9_63 (lv_at hl 6 rfl) ?_
  refine lv_lload hx hb dJ9_multiplyHigh_f86c9_65 (lv_at hl 5 rfl) ?_
  refine lv_lmul hx hb dJ9_multiplyHigh_f86c9_67 ?_
  refine lv_ladd hx hb dJ9_multiplyHigh_f86c9_68 ?_
  refine lv_topl (fun x9 ex9 => ?_)
  have hm : ((x1 * x3) + x8) + (eb_lshr x9 32) = mm := by rw [ex9]; exact hm
  refine lv_lstore (lv' := [(16, .long x9), (18, .long x8), (14, .long x6), (12, .long x5), (10, .long x4), (8, .long x3), (6, .long x2), (4, .long x1), (0, .long a0), (2, .long a1)]) hx hb dJ9_multiplyHigh_f86c9_69 hl (by decide) rfl (fun ls hl => ?_)
  refine lv_lload hx hb dJ9_multiplyHigh_f86c9_71 (lv_at hl 7 rfl) ?_
  refine lv_lload hx hb dJ9_multiplyHigh_f86c9_73 (lv_at hl 5 rfl) ?_
  refine lv_lmul hx hb dJ9_multiplyHigh_f86c9_75 ?_
  refine lv_lload hx hb dJ9_multiplyHigh_f86c9_76 (lv_at hl 1 rfl) ?_
  refine lv_ladd hx hb dJ9_multiplyHigh_f86c9_78 ?_
  refine lv_lload hx hb dJ9_multiplyHigh_f86c9_79 (lv_at hl 0 rfl) ?_
  refine lv_bipush (v := 32) hx hb dJ9_multiplyHigh_f86c9_81 (by decide) ?_
  refine lv_lshr (v := eb_lshr x9 32) hx hb dJ9_multiplyHigh_f86c9_83 rfl ?_
  refine lv_ladd hx hb dJ9_multiplyHigh_f86c9_84 ?_
  subst hm
  exact eb_lret X hw rfl rfl rfl dJ9_multiplyHigh_f86c9_85

set_option maxHeartbeats 4000000 in
set_option maxRecDepth 100000 in
theorem c_J7_rangeCheck_23922 (l : Launch) (D : va_G) (cy : Nat → ClassId) (ad : Nat → Nat) (σ : eb_St) (a0 : Int32) (a1 : Int32) (a2 : Int32) (h0_ : a1 ≤ a2) (h1_ : 0 ≤ a1) (h2_ : a2 ≤ a0) : eb_M l yJ7_rangeCheck_23922 (Cond.code yJ7_rangeCheck_23922 cJ7_rangeCheck_23922 3 none :: wsL_law) 0 0 D 33 cy cL ad σ [.int a0, .int a1, .int a2] (none) σ := by
  refine eb_start (own := RJ7) (by decide) rfl rfl (Nat.le_of_ble_eq_true rfl) ?_
  intro p e s m args below meth c A ls X hw hl
  have hl : lv_has ls 3 [(0, .int a0), (1, .int a1), (2, .int a2)] := hl
  have hx := X.1.1
  have hb := X.1.2.1
  have hown := X.1.2.2.2.1
  have hts := X.1.2.2.2.2
  generalize hm : m_J7_rangeCheck_23922 a0 a1 a2 = mm
  have hm : () = mm := hm
  refine lv_iload_n hx hb dJ7_rangeCheck_23922_0 rfl (lv_at hl 1 rfl) ?_
  refine lv_iload_n hx hb dJ7_rangeCheck_23922_1 rfl (lv_at hl 2 rfl) ?_
  refine lv_icmp_le (tgt := 46) hx hb dJ7_rangeCheck_23922_2 (by decide) (fun h1 => ?_) (fun hq => absurd h0_ hq)
  refine lv_iload_n hx hb dJ7_rangeCheck_23922_46 rfl (lv_at hl 1 rfl) ?_
  refine lv_if_ge (tgt := 59) hx hb dJ7_rangeCheck_23922_47 (by decide) (fun h2 => ?_) (fun hq => absurd h1_ hq)
  refine lv_iload_n hx hb dJ7_rangeCheck_23922_59 rfl (lv_at hl 2 rfl) ?_
  refine lv_iload_n hx hb dJ7_rangeCheck_23922_60 rfl (lv_at hl 0 rfl) ?_
  refine lv_icmp_le (tgt := 73) hx hb dJ7_rangeCheck_23922_61 (by decide) (fun h3 => ?_) (fun hq => absurd h2_ hq)
  exact eb_vret X hw rfl rfl dJ7_rangeCheck_23922_73

set_option maxHeartbeats 4000000 in
set_option maxRecDepth 100000 in
theorem k_J7_fill_d0a16_6 {p : Program} {l : Launch} {e : Env} {s : State} {m : MethodId} {args : Array Value} {below : List Frame} {meth : Method} {c : Code} {A : Nat → Prop} {D : va_G} {cy : Nat → ClassId} {ad : Nat → Nat} (X : eb_X p s m args meth c cJ7_fill_d0a16 5 RJ7 (Cond.code yJ7_fill_d0a16 cJ7_fill_d0a16 5 none :: wsL_law) none D cy A) (a0 : Nat) (ma0 : Nat) (ba0 : a0 < 33) (ka0 : cL.1 a0 = 3) (na0 : cL.2.2.1 a0 = ma0) (la0 : ma0 < 2147483648) : ∀ (n : Nat) (σ : eb_St) (v1 : Int64) (v3 : Int32) (v4 : Int32)  (i0_ : 0 ≤ v3.toInt) (i1_ : v4 = Int32.ofNat ma0) (hn : (v4.toInt - v3.toInt).toNat < n) {H : Heap} {locs : List Loc} {ls : Array Slot} {mm : eb_St} (_ : (m_J7_fill_d0a16_6 a0 ma0 n σ v1 v3 v4) = mm) (hw : eb_H D 33 cy cL ad A s.heap σ H locs) (hl : lv_has ls 5 [(0, .ref (ad a0)), (1, .long v1), (3, .int v3), (4, .int v4)]), W p l e ({ frames := 0, cells := 0, slots := 0, locals := 0 } : Room) s m args below meth c H locs 0 0 (MQ below (eb_Q D 33 cy cL ad A (none) mm) args s 0 0 A) (F0 m 6 ls []) := by
  have hx := X.1.1
  have hb := X.1.2.1
  have hown := X.1.2.2.2.1
  have hts := X.1.2.2.2.2
  intro n
  induction n with
  | zero => intro σ v1 v3 v4 i0_ i1_ hn; exact absurd hn (Nat.not_lt_zero _)
  | succ n ih =>
    intro σ v1 v3 v4 i0_ i1_ hn H locs ls mm hm hw hl
    have hm : (if v4 ≤ v3 then σ else (fun (x3 : Int32) => m_J7_fill_d0a16_6 a0 ma0 n (eb_pJ σ a0 v3.toNatClampNeg v1) v1 x3 v4) (v3 + 1)) = mm := hm
    refine lv_iload_n hx hb dJ7_fill_d0a16_6 rfl (lv_at hl 2 rfl) ?_
    refine lv_iload hx hb dJ7_fill_d0a16_7 (lv_at hl 3 rfl) ?_
    refine lv_icmp_ge (tgt := 22) hx hb dJ7_fill_d0a16_9 (by decide) (fun h2 => ?_) (fun h2 => ?_)
    · have hm := (if_pos h2).symm.trans hm
      subst hm
      exact eb_vret X hw rfl rfl dJ7_fill_d0a16_22
    · have hm := (if_neg h2).symm.trans hm
      refine lv_aload_n hx hb dJ7_fill_d0a16_12 rfl (lv_at hl 0 rfl) ?_
      refine lv_iload_n hx hb dJ7_fill_d0a16_13 rfl (lv_at hl 2 rfl) ?_
      refine lv_lload_n hx hb dJ7_fill_d0a16_14 rfl (lv_at hl 1 rfl) ?_
      refine eb_last X hw a0 ba0 ka0 na0 (eb_inU (by rw [i1_]; exact nI_toInt la0) i0_ (eb_nle h2)) dJ7_fill_d0a16_15 (fun H locs hw => ?_)
      obtain ⟨x3, ex3⟩ : ∃ z : Int32, z = v3 + 1 := ⟨_, rfl⟩
      have hm : m_J7_fill_d0a16_6 a0 ma0 n (eb_pJ σ a0 v3.toNatClampNeg v1) v1 x3 v4 = mm := by rw [ex3]; exact hm
      refine lv_iinc (v := x3) (lv' := [(3, .int x3), (0, .ref (ad a0)), (1, .long v1), (4, .int v4)]) hx hb dJ7_fill_d0a16_16 hl (k := 2) rfl (by rw [ex3]; exact congrArg (v3 + ·) (by decide)) (by decide) rfl (fun ls hl => ?_)
      refine lv_goto (tgt := 6) hx hb dJ7_fill_d0a16_19 (by decide) ?_
      exact ih (eb_pJ σ a0 v3.toNatClampNeg v1) v1 x3 v4 (eb_up i0_ (eb_nle h2) ex3 hn).1 i1_ (eb_up1 (eb_nle h2) ex3 hn) hm hw (lv_sub hl [1, 2, 0, 3] rfl)
set_option maxHeartbeats 4000000 in
set_option maxRecDepth 100000 in
theorem c_J7_fill_d0a16 (l : Launch) (D : va_G) (cy : Nat → ClassId) (ad : Nat → Nat) (σ : eb_St) (a0 : Nat) (ma0 : Nat) (a1 : Int64) (ba0 : a0 < 33) (ka0 : cL.1 a0 = 3) (na0 : cL.2.2.1 a0 = ma0) (la0 : ma0 < 2147483648) : eb_M l yJ7_fill_d0a16 (Cond.code yJ7_fill_d0a16 cJ7_fill_d0a16 5 none :: wsL_law) 0 0 D 33 cy cL ad σ [.ref (ad a0), .long a1] (none) (m_J7_fill_d0a16 σ a0 ma0 a1) := by
  refine eb_start (own := RJ7) (by decide) rfl rfl (Nat.le_of_ble_eq_true rfl) ?_
  intro p e s m args below meth c A ls X hw hl
  have hl : lv_has ls 5 [(0, .ref (ad a0)), (1, .long a1)] := hl
  have hx := X.1.1
  have hb := X.1.2.1
  have hown := X.1.2.2.2.1
  have hts := X.1.2.2.2.2
  generalize hm : m_J7_fill_d0a16 σ a0 ma0 a1 = mm
  have hm : (fun (x1 : Int32) => m_J7_fill_d0a16_6 a0 ma0 ((x1.toInt - (0 : Int32).toInt).toNat + 1) σ a1 0 x1) (Int32.ofNat ma0) = mm := hm
  refine lv_iconst (v := 0) hx hb dJ7_fill_d0a16_0 (by decide) ?_
  refine lv_istore_n (lv' := [(3, .int 0), (0, .ref (ad a0)), (1, .long a1)]) hx hb dJ7_fill_d0a16_1 rfl hl (by decide) rfl (fun ls hl => ?_)
  refine lv_aload_n hx hb dJ7_fill_d0a16_2 rfl (lv_at hl 1 rfl) ?_
  refine eb_alen X hw a0 ba0 2 ka0 (by decide) (v := Int32.ofNat ma0) (by rw [na0]) dJ7_fill_d0a16_3 ?_
  refine lv_topi (fun x1 ex1 => ?_)
  have hm : m_J7_fill_d0a16_6 a0 ma0 ((x1.toInt - (0 : Int32).toInt).toNat + 1) σ a1 0 x1 = mm := by rw [ex1]; exact hm
  refine lv_istore (lv' := [(4, .int x1), (3, .int 0), (0, .ref (ad a0)), (1, .long a1)]) hx hb dJ7_fill_d0a16_4 hl (by decide) rfl (fun ls hl => ?_)
  exact k_J7_fill_d0a16_6 X a0 ma0 ba0 ka0 na0 la0 ((x1.toInt - (0 : Int32).toInt).toNat + 1) σ a1 0 x1 (by decide) ex1 (Nat.lt_succ_self _) hm hw (lv_sub hl [2, 3, 1, 0] rfl)

set_option maxHeartbeats 4000000 in
set_option maxRecDepth 100000 in
theorem k_J7_fill_53178_5 {p : Program} {l : Launch} {e : Env} {s : State} {m : MethodId} {args : Array Value} {below : List Frame} {meth : Method} {c : Code} {A : Nat → Prop} {D : va_G} {cy : Nat → ClassId} {ad : Nat → Nat} (X : eb_X p s m args meth c cJ7_fill_53178 4 RJ7 (Cond.code yJ7_fill_53178 cJ7_fill_53178 4 none :: wsL_law) none D cy A) (a0 : Nat) (ma0 : Nat) (ba0 : a0 < 33) (ka0 : cL.1 a0 = 2) (na0 : cL.2.2.1 a0 = ma0) (la0 : ma0 < 2147483648) : ∀ (n : Nat) (σ : eb_St) (v1 : Int32) (v2 : Int32) (v3 : Int32)  (i0_ : 0 ≤ v2.toInt) (i1_ : v3 = Int32.ofNat ma0) (hn : (v3.toInt - v2.toInt).toNat < n) {H : Heap} {locs : List Loc} {ls : Array Slot} {mm : eb_St} (_ : (m_J7_fill_53178_5 a0 ma0 n σ v1 v2 v3) = mm) (hw : eb_H D 33 cy cL ad A s.heap σ H locs) (hl : lv_has ls 4 [(0, .ref (ad a0)), (1, .int v1), (2, .int v2), (3, .int v3)]), W p l e ({ frames := 0, cells := 0, slots := 0, locals := 0 } : Room) s m args below meth c H locs 0 0 (MQ below (eb_Q D 33 cy cL ad A (none) mm) args s 0 0 A) (F0 m 5 ls []) := by
  have hx := X.1.1
  have hb := X.1.2.1
  have hown := X.1.2.2.2.1
  have hts := X.1.2.2.2.2
  intro n
  induction n with
  | zero => intro σ v1 v2 v3 i0_ i1_ hn; exact absurd hn (Nat.not_lt_zero _)
  | succ n ih =>
    intro σ v1 v2 v3 i0_ i1_ hn H locs ls mm hm hw hl
    have hm : (if v3 ≤ v2 then σ else (fun (x3 : Int32) => m_J7_fill_53178_5 a0 ma0 n (eb_pI σ a0 v2.toNatClampNeg v1) v1 x3 v3) (v2 + 1)) = mm := hm
    refine lv_iload_n hx hb dJ7_fill_53178_5 rfl (lv_at hl 2 rfl) ?_
    refine lv_iload_n hx hb dJ7_fill_53178_6 rfl (lv_at hl 3 rfl) ?_
    refine lv_icmp_ge (tgt := 20) hx hb dJ7_fill_53178_7 (by decide) (fun h2 => ?_) (fun h2 => ?_)
    · have hm := (if_pos h2).symm.trans hm
      subst hm
      exact eb_vret X hw rfl rfl dJ7_fill_53178_20
    · have hm := (if_neg h2).symm.trans hm
      refine lv_aload_n hx hb dJ7_fill_53178_10 rfl (lv_at hl 0 rfl) ?_
      refine lv_iload_n hx hb dJ7_fill_53178_11 rfl (lv_at hl 2 rfl) ?_
      refine lv_iload_n hx hb dJ7_fill_53178_12 rfl (lv_at hl 1 rfl) ?_
      refine eb_iast X hw a0 ba0 ka0 na0 (eb_inU (by rw [i1_]; exact nI_toInt la0) i0_ (eb_nle h2)) dJ7_fill_53178_13 (fun H locs hw => ?_)
      obtain ⟨x3, ex3⟩ : ∃ z : Int32, z = v2 + 1 := ⟨_, rfl⟩
      have hm : m_J7_fill_53178_5 a0 ma0 n (eb_pI σ a0 v2.toNatClampNeg v1) v1 x3 v3 = mm := by rw [ex3]; exact hm
      refine lv_iinc (v := x3) (lv' := [(2, .int x3), (0, .ref (ad a0)), (1, .int v1), (3, .int v3)]) hx hb dJ7_fill_53178_14 hl (k := 2) rfl (by rw [ex3]; exact congrArg (v2 + ·) (by decide)) (by decide) rfl (fun ls hl => ?_)
      refine lv_goto (tgt := 5) hx hb dJ7_fill_53178_17 (by decide) ?_
      exact ih (eb_pI σ a0 v2.toNatClampNeg v1) v1 x3 v3 (eb_up i0_ (eb_nle h2) ex3 hn).1 i1_ (eb_up1 (eb_nle h2) ex3 hn) hm hw (lv_sub hl [1, 2, 0, 3] rfl)
set_option maxHeartbeats 4000000 in
set_option maxRecDepth 100000 in
theorem c_J7_fill_53178 (l : Launch) (D : va_G) (cy : Nat → ClassId) (ad : Nat → Nat) (σ : eb_St) (a0 : Nat) (ma0 : Nat) (a1 : Int32) (ba0 : a0 < 33) (ka0 : cL.1 a0 = 2) (na0 : cL.2.2.1 a0 = ma0) (la0 : ma0 < 2147483648) : eb_M l yJ7_fill_53178 (Cond.code yJ7_fill_53178 cJ7_fill_53178 4 none :: wsL_law) 0 0 D 33 cy cL ad σ [.ref (ad a0), .int a1] (none) (m_J7_fill_53178 σ a0 ma0 a1) := by
  refine eb_start (own := RJ7) (by decide) rfl rfl (Nat.le_of_ble_eq_true rfl) ?_
  intro p e s m args below meth c A ls X hw hl
  have hl : lv_has ls 4 [(0, .ref (ad a0)), (1, .int a1)] := hl
  have hx := X.1.1
  have hb := X.1.2.1
  have hown := X.1.2.2.2.1
  have hts := X.1.2.2.2.2
  generalize hm : m_J7_fill_53178 σ a0 ma0 a1 = mm
  have hm : (fun (x1 : Int32) => m_J7_fill_53178_5 a0 ma0 ((x1.toInt - (0 : Int32).toInt).toNat + 1) σ a1 0 x1) (Int32.ofNat ma0) = mm := hm
  refine lv_iconst (v := 0) hx hb dJ7_fill_53178_0 (by decide) ?_
  refine lv_istore_n (lv' := [(2, .int 0), (0, .ref (ad a0)), (1, .int a1)]) hx hb dJ7_fill_53178_1 rfl hl (by decide) rfl (fun ls hl => ?_)
  refine lv_aload_n hx hb dJ7_fill_53178_2 rfl (lv_at hl 1 rfl) ?_
  refine eb_alen X hw a0 ba0 1 ka0 (by decide) (v := Int32.ofNat ma0) (by rw [na0]) dJ7_fill_53178_3 ?_
  refine lv_topi (fun x1 ex1 => ?_)
  have hm : m_J7_fill_53178_5 a0 ma0 ((x1.toInt - (0 : Int32).toInt).toNat + 1) σ a1 0 x1 = mm := by rw [ex1]; exact hm
  refine lv_istore_n (lv' := [(3, .int x1), (2, .int 0), (0, .ref (ad a0)), (1, .int a1)]) hx hb dJ7_fill_53178_4 rfl hl (by decide) rfl (fun ls hl => ?_)
  exact k_J7_fill_53178_5 X a0 ma0 ba0 ka0 na0 la0 ((x1.toInt - (0 : Int32).toInt).toNat + 1) σ a1 0 x1 (by decide) ex1 (Nat.lt_succ_self _) hm hw (lv_sub hl [2, 3, 1, 0] rfl)

set_option maxHeartbeats 4000000 in
set_option maxRecDepth 100000 in
theorem k_J7_fill_bad5a_10 {p : Program} {l : Launch} {e : Env} {s : State} {m : MethodId} {args : Array Value} {below : List Frame} {meth : Method} {c : Code} {A : Nat → Prop} {D : va_G} {cy : Nat → ClassId} {ad : Nat → Nat} (X : eb_X p s m args meth c cJ7_fill_bad5a 6 RJ7 (Cond.code yJ7_fill_bad5a cJ7_fill_bad5a 6 none :: wsL_law) none D cy A) (a0 : Nat) (ma0 : Nat) (ba0 : a0 < 33) (ka0 : cL.1 a0 = 3) (na0 : cL.2.2.1 a0 = ma0) (la0 : ma0 < 2147483648) : ∀ (n : Nat) (σ : eb_St) (v2 : Int32) (v3 : Int64) (v5 : Int32)  (i0_ : 0 ≤ v5.toInt) (i1_ : v2.toInt ≤ ma0) (hn : (v2.toInt - v5.toInt).toNat < n) {H : Heap} {locs : List Loc} {ls : Array Slot} {mm : eb_St} (_ : (m_J7_fill_bad5a_10 a0 ma0 n σ v2 v3 v5) = mm) (hw : eb_H D 33 cy cL ad A s.heap σ H locs) (hl : lv_has ls 6 [(0, .ref (ad a0)), (2, .int v2), (3, .long v3), (5, .int v5)]), W p l e ({ frames := 1, cells := 0, slots := 0, locals := 22 } : Room) s m args below meth c H locs 0 0 (MQ below (eb_Q D 33 cy cL ad A (none) mm) args s 0 0 A) (F0 m 10 ls []) := by
  have hx := X.1.1
  have hb := X.1.2.1
  have hown := X.1.2.2.2.1
  have hts := X.1.2.2.2.2
  intro n
  induction n with
  | zero => intro σ v2 v3 v5 i0_ i1_ hn; exact absurd hn (Nat.not_lt_zero _)
  | succ n ih =>
    intro σ v2 v3 v5 i0_ i1_ hn H locs ls mm hm hw hl
    have hm : (if v2 ≤ v5 then σ else (fun (x3 : Int32) => m_J7_fill_bad5a_10 a0 ma0 n (eb_pJ σ a0 v5.toNatClampNeg v3) v2 v3 x3) (v5 + 1)) = mm := hm
    refine lv_iload hx hb dJ7_fill_bad5a_10 (lv_at hl 3 rfl) ?_
    refine lv_iload_n hx hb dJ7_fill_bad5a_12 rfl (lv_at hl 1 rfl) ?_
    refine lv_icmp_ge (tgt := 27) hx hb dJ7_fill_bad5a_13 (by decide) (fun h2 => ?_) (fun h2 => ?_)
    · have hm := (if_pos h2).symm.trans hm
      subst hm
      exact eb_vret X hw rfl rfl dJ7_fill_bad5a_27
    · have hm := (if_neg h2).symm.trans hm
      refine lv_aload_n hx hb dJ7_fill_bad5a_16 rfl (lv_at hl 0 rfl) ?_
      refine lv_iload hx hb dJ7_fill_bad5a_17 (lv_at hl 3 rfl) ?_
      refine lv_lload_n hx hb dJ7_fill_bad5a_19 rfl (lv_at hl 2 rfl) ?_
      refine eb_last X hw a0 ba0 ka0 na0 (vp_in_iff.mpr ⟨i0_, Int.lt_of_lt_of_le (Int32.lt_iff_toInt_lt.mp (eb_nle h2)) i1_⟩) dJ7_fill_bad5a_20 (fun H locs hw => ?_)
      obtain ⟨x3, ex3⟩ : ∃ z : Int32, z = v5 + 1 := ⟨_, rfl⟩
      have hm : m_J7_fill_bad5a_10 a0 ma0 n (eb_pJ σ a0 v5.toNatClampNeg v3) v2 v3 x3 = mm := by rw [ex3]; exact hm
      refine lv_iinc (v := x3) (lv' := [(5, .int x3), (0, .ref (ad a0)), (2, .int v2), (3, .long v3)]) hx hb dJ7_fill_bad5a_21 hl (k := 3) rfl (by rw [ex3]; exact congrArg (v5 + ·) (by decide)) (by decide) rfl (fun ls hl => ?_)
      refine lv_goto (tgt := 10) hx hb dJ7_fill_bad5a_24 (by decide) ?_
      exact ih (eb_pJ σ a0 v5.toNatClampNeg v3) v2 v3 x3 (eb_up i0_ (eb_nle h2) ex3 hn).1 i1_ (eb_up1 (eb_nle h2) ex3 hn) hm hw (lv_sub hl [1, 2, 3, 0] rfl)
set_option maxHeartbeats 4000000 in
set_option maxRecDepth 100000 in
theorem c_J7_fill_bad5a (l : Launch) (D : va_G) (cy : Nat → ClassId) (ad : Nat → Nat) (σ : eb_St) (a0 : Nat) (ma0 : Nat) (a1 : Int32) (a2 : Int32) (a3 : Int64) (ba0 : a0 < 33) (ka0 : cL.1 a0 = 3) (na0 : cL.2.2.1 a0 = ma0) (la0 : ma0 < 2147483648) (h0_ : a1 ≤ a2) (h1_ : 0 ≤ a1) (h2_ : a2 ≤ Int32.ofNat ma0) : eb_M l yJ7_fill_bad5a (Cond.code yJ7_fill_bad5a cJ7_fill_bad5a 6 none :: wsL_law) 1 22 D 33 cy cL ad σ [.ref (ad a0), .int a1, .int a2, .long a3] (none) (m_J7_fill_bad5a σ a0 ma0 a1 a2 a3) := by
  refine eb_start (own := RJ7) (by decide) rfl rfl (Nat.le_of_ble_eq_true rfl) ?_
  intro p e s m args below meth c A ls X hw hl
  have hl : lv_has ls 6 [(0, .ref (ad a0)), (1, .int a1), (2, .int a2), (3, .long a3)] := hl
  have hx := X.1.1
  have hb := X.1.2.1
  have hown := X.1.2.2.2.1
  have hts := X.1.2.2.2.2
  generalize hm : m_J7_fill_bad5a σ a0 ma0 a1 a2 a3 = mm
  have hm : m_J7_fill_bad5a_10 a0 ma0 ((a2.toInt - a1.toInt).toNat + 1) σ a2 a3 a1 = mm := hm
  refine lv_aload_n hx hb dJ7_fill_bad5a_0 rfl (lv_at hl 0 rfl) ?_
  refine eb_alen X hw a0 ba0 2 ka0 (by decide) (v := Int32.ofNat ma0) (by rw [na0]) dJ7_fill_bad5a_1 ?_
  refine lv_iload_n hx hb dJ7_fill_bad5a_2 rfl (lv_at hl 1 rfl) ?_
  refine lv_iload_n hx hb dJ7_fill_bad5a_3 rfl (lv_at hl 2 rfl) ?_
  have hc := c_J7_rangeCheck_23922 l D cy ad σ (Int32.ofNat ma0) a1 a2 h0_ h1_ h2_
  refine eb_callS (n := 3) X hw hl.1 (rest := []) hc (eb_goodS wi_7_23 wi_8_0 wi_7_21 wi_8_1) rfl (by decide +kernel) ⟨by decide, by decide⟩ rfl rfl (Nat.le_of_ble_eq_true rfl) dJ7_fill_bad5a_4 ⟨by decide, by decide⟩ (st' := []) rfl (fun H locs hw => ?_)
  refine lv_iload_n hx hb dJ7_fill_bad5a_7 rfl (lv_at hl 1 rfl) ?_
  refine lv_istore (lv' := [(5, .int a1), (0, .ref (ad a0)), (1, .int a1), (2, .int a2), (3, .long a3)]) hx hb dJ7_fill_bad5a_8 hl (by decide) rfl (fun ls hl => ?_)
  exact k_J7_fill_bad5a_10 X a0 ma0 ba0 ka0 na0 la0 ((a2.toInt - a1.toInt).toNat + 1) σ a2 a3 a1 (eb_nn h1_) (eb_leN la0 h2_) (Nat.lt_succ_self _) hm hw (lv_sub hl [1, 3, 4, 0] rfl)

set_option maxHeartbeats 4000000 in
set_option maxRecDepth 100000 in
theorem c_X4_shift (l : Launch) (D : va_G) (cy : Nat → ClassId) (ad : Nat → Nat) (σ : eb_St) (a0 : Int32)  : eb_M l yX4_shift (Cond.code yX4_shift cX4_shift 1 (some .int) :: wsL_law) 0 0 D 33 cy cL ad σ [.int a0] (some (.int (m_X4_shift a0))) σ := by
  refine eb_start (own := RX4) (by decide) rfl rfl (Nat.le_of_ble_eq_true rfl) ?_
  intro p e s m args below meth c A ls X hw hl
  have hl : lv_has ls 1 [(0, .int a0)] := hl
  have hx := X.1.1
  have hb := X.1.2.1
  have hown := X.1.2.2.2.1
  have hts := X.1.2.2.2.2
  generalize hm : m_X4_shift a0 = mm
  have hm : (a0 &&& 7) <<< (3 &&& 31) = mm := hm
  refine lv_iload_n hx hb dX4_shift_0 rfl (lv_at hl 0 rfl) ?_
  refine lv_bipush (v := 7) hx hb dX4_shift_1 (by decide) ?_
  refine lv_iand hx hb dX4_shift_3 ?_
  refine lv_iconst (v := 3) hx hb dX4_shift_4 (by decide) ?_
  refine lv_ishl hx hb dX4_shift_5 ?_
  subst hm
  exact eb_iret X hw rfl rfl rfl dX4_shift_6

set_option maxHeartbeats 4000000 in
set_option maxRecDepth 100000 in
theorem c_X4_mask (l : Launch) (D : va_G) (cy : Nat → ClassId) (ad : Nat → Nat) (σ : eb_St) (a0 : Int32)  : eb_M l yX4_mask (Cond.code yX4_mask cX4_mask 1 (some .long) :: wsL_law) 0 0 D 33 cy cL ad σ [.int a0] (some (.long (m_X4_mask a0))) σ := by
  refine eb_start (own := RX4) (by decide) rfl rfl (Nat.le_of_ble_eq_true rfl) ?_
  intro p e s m args below meth c A ls X hw hl
  have hl : lv_has ls 1 [(0, .int a0)] := hl
  have hx := X.1.1
  have hb := X.1.2.1
  have hown := X.1.2.2.2.1
  have hts := X.1.2.2.2.2
  generalize hm : m_X4_mask a0 = mm
  have hm : (if a0 < 8 then (eb_lshl 1 (a0 <<< (3 &&& 31))) - 1 else (-1)) = mm := hm
  refine lv_iload_n hx hb dX4_mask_0 rfl (lv_at hl 0 rfl) ?_
  refine lv_bipush (v := 8) hx hb dX4_mask_1 (by decide) ?_
  refine lv_icmp_lt (tgt := 12) hx hb dX4_mask_3 (by decide) (fun h1 => ?_) (fun h1 => ?_)
  · have hm := (if_pos h1).symm.trans hm
    refine lv_lconst (v := 1) hx hb dX4_mask_12 (by decide) ?_
    refine lv_iload_n hx hb dX4_mask_13 rfl (lv_at hl 0 rfl) ?_
    refine lv_iconst (v := 3) hx hb dX4_mask_14 (by decide) ?_
    refine lv_ishl hx hb dX4_mask_15 ?_
    refine lv_lshl (v := eb_lshl 1 (a0 <<< (3 &&& 31))) hx hb dX4_mask_16 rfl ?_
    refine lv_lconst (v := 1) hx hb dX4_mask_17 (by decide) ?_
    refine lv_lsub hx hb dX4_mask_18 ?_
    subst hm
    exact eb_lret X hw rfl rfl rfl dX4_mask_19
  · have hm := (if_neg h1).symm.trans hm
    refine lv_ldc2 hx hb hown (hts _ (List.mem_cons_of_mem _ wi_7_12)) dX4_mask_6 ?_
    refine lv_goto (tgt := 19) hx hb dX4_mask_9 (by decide) ?_
    subst hm
    exact eb_lret X hw rfl rfl rfl dX4_mask_19

set_option maxHeartbeats 4000000 in
set_option maxRecDepth 100000 in
theorem c_X4_load (l : Launch) (D : va_G) (cy : Nat → ClassId) (ad : Nat → Nat) (σ : eb_St) (a0 : Int32) (a1 : Int32)  : eb_M l yX4_load (Cond.code yX4_load cX4_load 3 (some .long) :: wsL_law) 1 20 D 33 cy cL ad σ [.ref (ad 1), .int a0, .int a1] (some (.long (m_X4_load σ a0 a1))) σ := by
  refine eb_start (own := RX4) (by decide) rfl rfl (Nat.le_of_ble_eq_true rfl) ?_
  intro p e s m args below meth c A ls X hw hl
  have hl : lv_has ls 3 [(0, .ref (ad 1)), (1, .int a0), (2, .int a1)] := hl
  have hx := X.1.1
  have hb := X.1.2.1
  have hown := X.1.2.2.2.1
  have hts := X.1.2.2.2.2
  generalize hm : m_X4_load σ a0 a1 = mm
  have hm : (fun (z1 : Int32) => (fun (z2 : Int64) => (eb_lushr (σ.2 2 ((eb_iushr a0 3) &&& 8191).toNatClampNeg) z1) &&& z2) (m_X4_mask a1)) (m_X4_shift a0) = mm := hm
  refine lv_aload_n hx hb dX4_load_0 rfl (lv_at hl 0 rfl) ?_
  refine eb_get (T := TX4) X hw 1 0 (by decide) ⟨rfl, rfl, rfl⟩ (by decide) (fun _ h => List.mem_cons_of_mem _ (inlX4 _ h)) (List.mem_cons_of_mem _ wi_2_23) (v := .ref (ad 2)) rfl dX4_load_1 ?_
  refine lv_iload_n hx hb dX4_load_4 rfl (lv_at hl 1 rfl) ?_
  refine lv_iconst (v := 3) hx hb dX4_load_5 (by decide) ?_
  refine lv_iushr (v := eb_iushr a0 3) hx hb dX4_load_6 rfl ?_
  refine lv_sipush (v := 8191) hx hb dX4_load_7 (by decide) ?_
  refine lv_iand hx hb dX4_load_10 ?_
  refine eb_lald (n := 8192) X hw 2 (by decide) rfl rfl (pk_andIn _ 13 (by decide) (by decide)) dX4_load_11 ?_
  refine lv_iload_n hx hb dX4_load_12 rfl (lv_at hl 1 rfl) ?_
  obtain ⟨z1, qz1⟩ : ∃ t : Int32, t = m_X4_shift a0 := ⟨_, rfl⟩
  have hm : (fun (z2 : Int64) => (eb_lushr (σ.2 2 ((eb_iushr a0 3) &&& 8191).toNatClampNeg) z1) &&& z2) (m_X4_mask a1) = mm := by rw [qz1]; exact hm
  have hc : eb_M l yX4_shift (Cond.code yX4_shift cX4_shift 1 (some .int) :: wsL_law) 0 0 D 33 cy cL ad σ [.int a0] (some (.int z1)) σ := by rw [qz1]; exact c_X4_shift l D cy ad σ a0
  refine eb_callS (n := 1) X hw hl.1 (rest := [.long (σ.2 2 ((eb_iushr a0 3) &&& 8191).toNatClampNeg)]) hc (eb_goodS wi_7_16 wi_7_17 wi_1_19 wi_7_18) rfl (by decide +kernel) ⟨by decide, by decide⟩ rfl rfl (Nat.le_of_ble_eq_true rfl) dX4_load_13 ⟨by decide, by decide⟩ (st' := [.int z1, .long (σ.2 2 ((eb_iushr a0 3) &&& 8191).toNatClampNeg)]) rfl (fun H locs hw => ?_)
  refine lv_lushr (v := eb_lushr (σ.2 2 ((eb_iushr a0 3) &&& 8191).toNatClampNeg) z1) hx hb dX4_load_16 rfl ?_
  refine lv_iload_n hx hb dX4_load_17 rfl (lv_at hl 2 rfl) ?_
  obtain ⟨z2, qz2⟩ : ∃ t : Int64, t = m_X4_mask a1 := ⟨_, rfl⟩
  have hm : (eb_lushr (σ.2 2 ((eb_iushr a0 3) &&& 8191).toNatClampNeg) z1) &&& z2 = mm := by rw [qz2]; exact hm
  have hc : eb_M l yX4_mask (Cond.code yX4_mask cX4_mask 1 (some .long) :: wsL_law) 0 0 D 33 cy cL ad σ [.int a1] (some (.long z2)) σ := by rw [qz2]; exact c_X4_mask l D cy ad σ a1
  refine eb_callS (n := 1) X hw hl.1 (rest := [.long (eb_lushr (σ.2 2 ((eb_iushr a0 3) &&& 8191).toNatClampNeg) z1)]) hc (eb_goodS wi_7_13 wi_7_14 wi_1_19 wi_7_15) rfl (by decide +kernel) ⟨by decide, by decide⟩ rfl rfl (Nat.le_of_ble_eq_true rfl) dX4_load_18 ⟨by decide, by decide⟩ (st' := [.long z2, .long (eb_lushr (σ.2 2 ((eb_iushr a0 3) &&& 8191).toNatClampNeg) z1)]) rfl (fun H locs hw => ?_)
  refine lv_land hx hb dX4_load_21 ?_
  subst hm
  exact eb_lret X hw rfl rfl rfl dX4_load_22

set_option maxHeartbeats 4000000 in
set_option maxRecDepth 100000 in
theorem c_X4_store (l : Launch) (D : va_G) (cy : Nat → ClassId) (ad : Nat → Nat) (σ : eb_St) (a0 : Int32) (a1 : Int32) (a2 : Int64)  : eb_M l yX4_store (Cond.code yX4_store cX4_store 8 none :: wsL_law) 1 20 D 33 cy cL ad σ [.ref (ad 1), .int a0, .int a1, .long a2] (none) (m_X4_store σ a0 a1 a2) := by
  refine eb_start (own := RX4) (by decide) rfl rfl (Nat.le_of_ble_eq_true rfl) ?_
  intro p e s m args below meth c A ls X hw hl
  have hl : lv_has ls 8 [(0, .ref (ad 1)), (1, .int a0), (2, .int a1), (3, .long a2)] := hl
  have hx := X.1.1
  have hb := X.1.2.1
  have hown := X.1.2.2.2.1
  have hts := X.1.2.2.2.2
  generalize hm : m_X4_store σ a0 a1 a2 = mm
  have hm : (fun (x1 : Int32) => (fun (z2 : Int64) => (fun (z3 : Int32) => (fun (x4 : Int64) => (fun (z5 : Int32) => (fun (x6 : Int64) => eb_pJ σ 2 x1.toNatClampNeg x6) (((σ.2 2 x1.toNatClampNeg) &&& (x4 ^^^ (-1))) ||| ((eb_lshl a2 z5) &&& x4))) (m_X4_shift a0)) (eb_lshl z2 z3)) (m_X4_shift a0)) (m_X4_mask a1)) ((eb_iushr a0 3) &&& 8191) = mm := hm
  refine lv_iload_n hx hb dX4_store_0 rfl (lv_at hl 1 rfl) ?_
  refine lv_iconst (v := 3) hx hb dX4_store_1 (by decide) ?_
  refine lv_iushr (v := eb_iushr a0 3) hx hb dX4_store_2 rfl ?_
  refine lv_sipush (v := 8191) hx hb dX4_store_3 (by decide) ?_
  refine lv_iand hx hb dX4_store_6 ?_
  refine lv_topi (fun x1 ex1 => ?_)
  have hm : (fun (z2 : Int64) => (fun (z3 : Int32) => (fun (x4 : Int64) => (fun (z5 : Int32) => (fun (x6 : Int64) => eb_pJ σ 2 x1.toNatClampNeg x6) (((σ.2 2 x1.toNatClampNeg) &&& (x4 ^^^ (-1))) ||| ((eb_lshl a2 z5) &&& x4))) (m_X4_shift a0)) (eb_lshl z2 z3)) (m_X4_shift a0)) (m_X4_mask a1) = mm := by rw [ex1]; exact hm
  refine lv_istore (lv' := [(5, .int x1), (0, .ref (ad 1)), (1, .int a0), (2, .int a1), (3, .long a2)]) hx hb dX4_store_7 hl (by decide) rfl (fun ls hl => ?_)
  refine lv_iload_n hx hb dX4_store_9 rfl (lv_at hl 3 rfl) ?_
  obtain ⟨z2, qz2⟩ : ∃ t : Int64, t = m_X4_mask a1 := ⟨_, rfl⟩
  have hm : (fun (z3 : Int32) => (fun (x4 : Int64) => (fun (z5 : Int32) => (fun (x6 : Int64) => eb_pJ σ 2 x1.toNatClampNeg x6) (((σ.2 2 x1.toNatClampNeg) &&& (x4 ^^^ (-1))) ||| ((eb_lshl a2 z5) &&& x4))) (m_X4_shift a0)) (eb_lshl z2 z3)) (m_X4_shift a0) = mm := by rw [qz2]; exact hm
  have hc : eb_M l yX4_mask (Cond.code yX4_mask cX4_mask 1 (some .long) :: wsL_law) 0 0 D 33 cy cL ad σ [.int a1] (some (.long z2)) σ := by rw [qz2]; exact c_X4_mask l D cy ad σ a1
  refine eb_callS (n := 1) X hw hl.1 (rest := []) hc (eb_goodS wi_7_13 wi_7_14 wi_1_19 wi_7_15) rfl (by decide +kernel) ⟨by decide, by decide⟩ rfl rfl (Nat.le_of_ble_eq_true rfl) dX4_store_10 ⟨by decide, by decide⟩ (st' := [.long z2]) rfl (fun H locs hw => ?_)
  refine lv_iload_n hx hb dX4_store_13 rfl (lv_at hl 2 rfl) ?_
  obtain ⟨z3, qz3⟩ : ∃ t : Int32, t = m_X4_shift a0 := ⟨_, rfl⟩
  have hm : (fun (x4 : Int64) => (fun (z5 : Int32) => (fun (x6 : Int64) => eb_pJ σ 2 x1.toNatClampNeg x6) (((σ.2 2 x1.toNatClampNeg) &&& (x4 ^^^ (-1))) ||| ((eb_lshl a2 z5) &&& x4))) (m_X4_shift a0)) (eb_lshl z2 z3) = mm := by rw [qz3]; exact hm
  have hc : eb_M l yX4_shift (Cond.code yX4_shift cX4_shift 1 (some .int) :: wsL_law) 0 0 D 33 cy cL ad σ [.int a0] (some (.int z3)) σ := by rw [qz3]; exact c_X4_shift l D cy ad σ a0
  refine eb_callS (n := 1) X hw hl.1 (rest := [.long z2]) hc (eb_goodS wi_7_16 wi_7_17 wi_1_19 wi_7_18) rfl (by decide +kernel) ⟨by decide, by decide⟩ rfl rfl (Nat.le_of_ble_eq_true rfl) dX4_store_14 ⟨by decide, by decide⟩ (st' := [.int z3, .long z2]) rfl (fun H locs hw => ?_)
  refine lv_lshl (v := eb_lshl z2 z3) hx hb dX4_store_17 rfl ?_
  refine lv_topl (fun x4 ex4 => ?_)
  have hm : (fun (z5 : Int32) => (fun (x6 : Int64) => eb_pJ σ 2 x1.toNatClampNeg x6) (((σ.2 2 x1.toNatClampNeg) &&& (x4 ^^^ (-1))) ||| ((eb_lshl a2 z5) &&& x4))) (m_X4_shift a0) = mm := by rw [ex4]; exact hm
  refine lv_lstore (lv' := [(6, .long x4), (5, .int x1), (0, .ref (ad 1)), (1, .int a0), (2, .int a1), (3, .long a2)]) hx hb dX4_store_18 hl (by decide) rfl (fun ls hl => ?_)
  refine lv_aload_n hx hb dX4_store_20 rfl (lv_at hl 2 rfl) ?_
  refine eb_get (T := TX4) X hw 1 0 (by decide) ⟨rfl, rfl, rfl⟩ (by decide) (fun _ h => List.mem_cons_of_mem _ (inlX4 _ h)) (List.mem_cons_of_mem _ wi_2_23) (v := .ref (ad 2)) rfl dX4_store_21 ?_
  refine lv_iload hx hb dX4_store_24 (lv_at hl 1 rfl) ?_
  refine lv_aload_n hx hb dX4_store_26 rfl (lv_at hl 2 rfl) ?_
  refine eb_get (T := TX4) X hw 1 0 (by decide) ⟨rfl, rfl, rfl⟩ (by decide) (fun _ h => List.mem_cons_of_mem _ (inlX4 _ h)) (List.mem_cons_of_mem _ wi_2_23) (v := .ref (ad 2)) rfl dX4_store_27 ?_
  refine lv_iload hx hb dX4_store_30 (lv_at hl 1 rfl) ?_
  refine eb_lald (n := 8192) X hw 2 (by decide) rfl rfl (by rw [ex1]; exact pk_andIn _ 13 (by decide) (by decide)) dX4_store_32 ?_
  refine lv_lload hx hb dX4_store_33 (lv_at hl 0 rfl) ?_
  refine lv_ldc2 hx hb hown (hts _ (List.mem_cons_of_mem _ wi_7_12)) dX4_store_35 ?_
  refine lv_lxor hx hb dX4_store_38 ?_
  refine lv_land hx hb dX4_store_39 ?_
  refine lv_lload_n hx hb dX4_store_40 rfl (lv_at hl 5 rfl) ?_
  refine lv_iload_n hx hb dX4_store_41 rfl (lv_at hl 3 rfl) ?_
  obtain ⟨z5, qz5⟩ : ∃ t : Int32, t = m_X4_shift a0 := ⟨_, rfl⟩
  have hm : (fun (x6 : Int64) => eb_pJ σ 2 x1.toNatClampNeg x6) (((σ.2 2 x1.toNatClampNeg) &&& (x4 ^^^ (-1))) ||| ((eb_lshl a2 z5) &&& x4)) = mm := by rw [qz5]; exact hm
  have hc : eb_M l yX4_shift (Cond.code yX4_shift cX4_shift 1 (some .int) :: wsL_law) 0 0 D 33 cy cL ad σ [.int a0] (some (.int z5)) σ := by rw [qz5]; exact c_X4_shift l D cy ad σ a0
  refine eb_callS (n := 1) X hw hl.1 (rest := [.long a2, .long ((σ.2 2 x1.toNatClampNeg) &&& (x4 ^^^ (-1))), .int x1, .ref (ad 2)]) hc (eb_goodS wi_7_16 wi_7_17 wi_1_19 wi_7_18) rfl (by decide +kernel) ⟨by decide, by decide⟩ rfl rfl (Nat.le_of_ble_eq_true rfl) dX4_store_42 ⟨by decide, by decide⟩ (st' := [.int z5, .long a2, .long ((σ.2 2 x1.toNatClampNeg) &&& (x4 ^^^ (-1))), .int x1, .ref (ad 2)]) rfl (fun H locs hw => ?_)
  refine lv_lshl (v := eb_lshl a2 z5) hx hb dX4_store_45 rfl ?_
  refine lv_lload hx hb dX4_store_46 (lv_at hl 0 rfl) ?_
  refine lv_land hx hb dX4_store_48 ?_
  refine lv_lor hx hb dX4_store_49 ?_
  refine lv_topl (fun x6 ex6 => ?_)
  have hm : eb_pJ σ 2 x1.toNatClampNeg x6 = mm := by rw [ex6]; exact hm
  refine eb_last (n := 8192) X hw 2 (by decide) rfl rfl (by rw [ex1]; exact pk_andIn _ 13 (by decide) (by decide)) dX4_store_50 (fun H locs hw => ?_)
  subst hm
  exact eb_vret X hw rfl rfl dX4_store_51

set_option maxHeartbeats 4000000 in
set_option maxRecDepth 100000 in
theorem k_X4_zero_27 {p : Program} {l : Launch} {e : Env} {s : State} {m : MethodId} {args : Array Value} {below : List Frame} {meth : Method} {c : Code} {A : Nat → Prop} {H : Heap} {locs : List Loc} {ls : Array Slot} {D : va_G} {cy : Nat → ClassId} {ad : Nat → Nat} (X : eb_X p s m args meth c cX4_zero 4 RX4 (Cond.code yX4_zero cX4_zero 4 none :: wsL_law) none D cy A)   (σ : eb_St) (v2 : Int32) (v3 : Int32)  {mm : eb_St} (hm : (m_X4_zero_27  σ v2 v3) = mm) (hw : eb_H D 33 cy cL ad A s.heap σ H locs) (hl : lv_has ls 4 [(0, .ref (ad 1)), (2, .int v2), (3, .int v3)]) : W p l e ({ frames := 2, cells := 0, slots := 0, locals := 47 } : Room) s m args below meth c H locs 0 0 (MQ below (eb_Q D 33 cy cL ad A (none) mm) args s 0 0 A) (F0 m 27 ls []) := by
  have hx := X.1.1
  have hb := X.1.2.1
  have hown := X.1.2.2.2.1
  have hts := X.1.2.2.2.2
  have hm : (if v3 < 0 then σ else (if v2 ≤ v3 then σ else (if (65536 : Int32) < v2 then σ else (fun (z8 : eb_St) => z8) (m_J7_fill_bad5a σ 2 8192 (v3 / 8) (v2 / 8) 0)))) = mm := hm
  refine lv_iload_n hx hb dX4_zero_27 rfl (lv_at hl 2 rfl) ?_
  refine lv_if_lt (tgt := 58) hx hb dX4_zero_28 (by decide) (fun h5 => ?_) (fun h5 => ?_)
  · have hm := (if_pos h5).symm.trans hm
    subst hm
    exact eb_vret X hw rfl rfl dX4_zero_58
  · have hm := (if_neg h5).symm.trans hm
    refine lv_iload_n hx hb dX4_zero_31 rfl (lv_at hl 2 rfl) ?_
    refine lv_iload_n hx hb dX4_zero_32 rfl (lv_at hl 1 rfl) ?_
    refine lv_icmp_ge (tgt := 58) hx hb dX4_zero_33 (by decide) (fun h6 => ?_) (fun h6 => ?_)
    · have hm := (if_pos h6).symm.trans hm
      subst hm
      exact eb_vret X hw rfl rfl dX4_zero_58
    · have hm := (if_neg h6).symm.trans hm
      refine lv_iload_n hx hb dX4_zero_36 rfl (lv_at hl 1 rfl) ?_
      refine lv_ldc hx hb hown (hts _ (List.mem_cons_of_mem _ wi_7_7)) dX4_zero_37 ?_
      refine lv_icmp_gt (tgt := 58) hx hb dX4_zero_39 (by decide) (fun h7 => ?_) (fun h7 => ?_)
      · have hm := (if_pos h7).symm.trans hm
        subst hm
        exact eb_vret X hw rfl rfl dX4_zero_58
      · have hm := (if_neg h7).symm.trans hm
        refine lv_aload_n hx hb dX4_zero_42 rfl (lv_at hl 0 rfl) ?_
        refine eb_get (T := TX4) X hw 1 0 (by decide) ⟨rfl, rfl, rfl⟩ (by decide) (fun _ h => List.mem_cons_of_mem _ (inlX4 _ h)) (List.mem_cons_of_mem _ wi_2_23) (v := .ref (ad 2)) rfl dX4_zero_43 ?_
        refine lv_iload_n hx hb dX4_zero_46 rfl (lv_at hl 2 rfl) ?_
        refine lv_bipush (v := 8) hx hb dX4_zero_47 (by decide) ?_
        refine lv_idiv hx hb dX4_zero_49 (by decide) ?_
        refine lv_iload_n hx hb dX4_zero_50 rfl (lv_at hl 1 rfl) ?_
        refine lv_bipush (v := 8) hx hb dX4_zero_51 (by decide) ?_
        refine lv_idiv hx hb dX4_zero_53 (by decide) ?_
        refine lv_lconst (v := 0) hx hb dX4_zero_54 (by decide) ?_
        obtain ⟨z8, qz8⟩ : ∃ t : eb_St, t = m_J7_fill_bad5a σ 2 8192 (v3 / 8) (v2 / 8) 0 := ⟨_, rfl⟩
        have hm : z8 = mm := by rw [qz8]; exact hm
        have hc : eb_M l yJ7_fill_bad5a (Cond.code yJ7_fill_bad5a cJ7_fill_bad5a 6 none :: wsL_law) 1 22 D 33 cy cL ad σ [.ref (ad 2), .int (v3 / 8), .int (v2 / 8), .long 0] (none) z8 := by rw [qz8]; exact c_J7_fill_bad5a l D cy ad σ 2 8192 (v3 / 8) (v2 / 8) 0 (by decide) rfl rfl (by decide) (eb_div8_le (eb_nlt h5) (eb_nle h6)) (eb_div8_0 (eb_nlt h5)) (eb_div8_N (eb_nlt h5) (eb_nle h6) h7)
        refine eb_callS (n := 4) X hw hl.1 (rest := []) hc (eb_goodS wi_7_19 wi_7_20 wi_7_21 wi_7_22) rfl (by decide +kernel) ⟨by decide, by decide⟩ rfl rfl (Nat.le_of_ble_eq_true rfl) dX4_zero_55 ⟨by decide, by decide⟩ (st' := []) rfl (fun H locs hw => ?_)
        subst hm
        exact eb_vret X hw rfl rfl dX4_zero_58
set_option maxHeartbeats 4000000 in
set_option maxRecDepth 100000 in
theorem k_X4_zero_2 {p : Program} {l : Launch} {e : Env} {s : State} {m : MethodId} {args : Array Value} {below : List Frame} {meth : Method} {c : Code} {A : Nat → Prop} {D : va_G} {cy : Nat → ClassId} {ad : Nat → Nat} (X : eb_X p s m args meth c cX4_zero 4 RX4 (Cond.code yX4_zero cX4_zero 4 none :: wsL_law) none D cy A)   : ∀ (n : Nat) (σ : eb_St) (v2 : Int32) (v3 : Int32)   (hn : (v2.toInt - v3.toInt).toNat < n) {H : Heap} {locs : List Loc} {ls : Array Slot} {mm : eb_St} (_ : (m_X4_zero_2  n σ v2 v3) = mm) (hw : eb_H D 33 cy cL ad A s.heap σ H locs) (hl : lv_has ls 4 [(0, .ref (ad 1)), (2, .int v2), (3, .int v3)]), W p l e ({ frames := 2, cells := 0, slots := 0, locals := 47 } : Room) s m args below meth c H locs 0 0 (MQ below (eb_Q D 33 cy cL ad A (none) mm) args s 0 0 A) (F0 m 2 ls []) := by
  have hx := X.1.1
  have hb := X.1.2.1
  have hown := X.1.2.2.2.1
  have hts := X.1.2.2.2.2
  intro n
  induction n with
  | zero => intro σ v2 v3  hn; exact absurd hn (Nat.not_lt_zero _)
  | succ n ih =>
    intro σ v2 v3  hn H locs ls mm hm hw hl
    have hm : (if v2 ≤ v3 then m_X4_zero_27  σ v2 v3 else (if (v3 &&& 7) = 0 then m_X4_zero_27  σ v2 v3 else (fun (z3 : eb_St) => (fun (x4 : Int32) => m_X4_zero_2  n z3 v2 x4) (v3 + 1)) (m_X4_store σ v3 1 0))) = mm := hm
    refine lv_iload_n hx hb dX4_zero_2 rfl (lv_at hl 2 rfl) ?_
    refine lv_iload_n hx hb dX4_zero_3 rfl (lv_at hl 1 rfl) ?_
    refine lv_icmp_ge (tgt := 27) hx hb dX4_zero_4 (by decide) (fun h1 => ?_) (fun h1 => ?_)
    · have hm := (if_pos h1).symm.trans hm
      exact k_X4_zero_27 X   σ v2 v3 hm hw (lv_sub hl [0, 1, 2] rfl)
    · have hm := (if_neg h1).symm.trans hm
      refine lv_iload_n hx hb dX4_zero_7 rfl (lv_at hl 2 rfl) ?_
      refine lv_bipush (v := 7) hx hb dX4_zero_8 (by decide) ?_
      refine lv_iand hx hb dX4_zero_10 ?_
      refine lv_if_eq (tgt := 27) hx hb dX4_zero_11 (by decide) (fun h2 => ?_) (fun h2 => ?_)
      · have hm := (if_pos h2).symm.trans hm
        exact k_X4_zero_27 X   σ v2 v3 hm hw (lv_sub hl [0, 1, 2] rfl)
      · have hm := (if_neg h2).symm.trans hm
        refine lv_aload_n hx hb dX4_zero_14 rfl (lv_at hl 0 rfl) ?_
        refine lv_iload_n hx hb dX4_zero_15 rfl (lv_at hl 2 rfl) ?_
        refine lv_iconst (v := 1) hx hb dX4_zero_16 (by decide) ?_
        refine lv_lconst (v := 0) hx hb dX4_zero_17 (by decide) ?_
        obtain ⟨z3, qz3⟩ : ∃ t : eb_St, t = m_X4_store σ v3 1 0 := ⟨_, rfl⟩
        have hm : (fun (x4 : Int32) => m_X4_zero_2  n z3 v2 x4) (v3 + 1) = mm := by rw [qz3]; exact hm
        have hc : eb_M l yX4_store (Cond.code yX4_store cX4_store 8 none :: wsL_law) 1 20 D 33 cy cL ad σ [.ref (ad 1), .int v3, .int 1, .long 0] (none) z3 := by rw [qz3]; exact c_X4_store l D cy ad σ v3 1 0
        refine eb_callV (n := 3) (as := [.int v3, .int 1, .long 0]) (rest := []) X hw hl.1 1 hc (by decide) ⟨rfl, rfl, rfl⟩ (eb_goodV wi_7_8 wi_7_9 wi_7_10 wi_1_19 wi_7_11) rfl (by decide +kernel) ⟨by decide, by decide⟩ rfl rfl (Nat.le_of_ble_eq_true rfl) dX4_zero_18 ⟨by decide, by decide⟩ (st' := []) rfl (fun H locs hw => ?_)
        obtain ⟨x4, ex4⟩ : ∃ z : Int32, z = v3 + 1 := ⟨_, rfl⟩
        have hm : m_X4_zero_2  n z3 v2 x4 = mm := by rw [ex4]; exact hm
        refine lv_iinc (v := x4) (lv' := [(3, .int x4), (0, .ref (ad 1)), (2, .int v2)]) hx hb dX4_zero_21 hl (k := 2) rfl (by rw [ex4]; exact congrArg (v3 + ·) (by decide)) (by decide) rfl (fun ls hl => ?_)
        refine lv_goto (tgt := 2) hx hb dX4_zero_24 (by decide) ?_
        exact ih z3 v2 x4 (eb_up1 (eb_nle h1) ex4 hn) hm hw (lv_sub hl [1, 2, 0] rfl)
set_option maxHeartbeats 4000000 in
set_option maxRecDepth 100000 in
theorem c_X4_zero (l : Launch) (D : va_G) (cy : Nat → ClassId) (ad : Nat → Nat) (σ : eb_St) (a0 : Int32) (a1 : Int32)  : eb_M l yX4_zero (Cond.code yX4_zero cX4_zero 4 none :: wsL_law) 2 47 D 33 cy cL ad σ [.ref (ad 1), .int a0, .int a1] (none) (m_X4_zero σ a0 a1) := by
  refine eb_start (own := RX4) (by decide) rfl rfl (Nat.le_of_ble_eq_true rfl) ?_
  intro p e s m args below meth c A ls X hw hl
  have hl : lv_has ls 4 [(0, .ref (ad 1)), (1, .int a0), (2, .int a1)] := hl
  have hx := X.1.1
  have hb := X.1.2.1
  have hown := X.1.2.2.2.1
  have hts := X.1.2.2.2.2
  generalize hm : m_X4_zero σ a0 a1 = mm
  have hm : m_X4_zero_2  ((a1.toInt - a0.toInt).toNat + 1) σ a1 a0 = mm := hm
  refine lv_iload_n hx hb dX4_zero_0 rfl (lv_at hl 1 rfl) ?_
  refine lv_istore_n (lv' := [(3, .int a0), (0, .ref (ad 1)), (1, .int a0), (2, .int a1)]) hx hb dX4_zero_1 rfl hl (by decide) rfl (fun ls hl => ?_)
  exact k_X4_zero_2 X   ((a1.toInt - a0.toInt).toNat + 1) σ a1 a0 (Nat.lt_succ_self _) hm hw (lv_sub hl [1, 3, 0] rfl)

set_option maxHeartbeats 4000000 in
set_option maxRecDepth 100000 in
theorem k_X4_copy_8 {p : Program} {l : Launch} {e : Env} {s : State} {m : MethodId} {args : Array Value} {below : List Frame} {meth : Method} {c : Code} {A : Nat → Prop} {D : va_G} {cy : Nat → ClassId} {ad : Nat → Nat} (X : eb_X p s m args meth c cX4_copy 5 RX4 (Cond.code yX4_copy cX4_copy 5 none :: wsL_law) none D cy A)   : ∀ (n : Nat) (σ : eb_St) (v1 : Int32) (v2 : Int32) (v3 : Int32) (v4 : Int32)   (hn : (v3.toInt - v4.toInt).toNat < n) {H : Heap} {locs : List Loc} {ls : Array Slot} {mm : eb_St} (_ : (m_X4_copy_8  n σ v1 v2 v3 v4) = mm) (hw : eb_H D 33 cy cL ad A s.heap σ H locs) (hl : lv_has ls 5 [(0, .ref (ad 1)), (1, .int v1), (2, .int v2), (3, .int v3), (4, .int v4)]), W p l e ({ frames := 2, cells := 0, slots := 0, locals := 47 } : Room) s m args below meth c H locs 0 0 (MQ below (eb_Q D 33 cy cL ad A (none) mm) args s 0 0 A) (F0 m 8 ls []) := by
  have hx := X.1.1
  have hb := X.1.2.1
  have hown := X.1.2.2.2.1
  have hts := X.1.2.2.2.2
  intro n
  induction n with
  | zero => intro σ v1 v2 v3 v4  hn; exact absurd hn (Nat.not_lt_zero _)
  | succ n ih =>
    intro σ v1 v2 v3 v4  hn H locs ls mm hm hw hl
    have hm : (if v3 ≤ v4 then σ else (fun (z8 : Int64) => (fun (z9 : eb_St) => (fun (x10 : Int32) => m_X4_copy_8  n z9 v1 v2 v3 x10) (v4 + 1)) (m_X4_store σ (v2 + v4) 1 z8)) (m_X4_load σ (v1 + v4) 1)) = mm := hm
    refine lv_iload hx hb dX4_copy_8 (lv_at hl 4 rfl) ?_
    refine lv_iload_n hx hb dX4_copy_10 rfl (lv_at hl 3 rfl) ?_
    refine lv_icmp_ge (tgt := 38) hx hb dX4_copy_11 (by decide) (fun h7 => ?_) (fun h7 => ?_)
    · have hm := (if_pos h7).symm.trans hm
      refine lv_goto (tgt := 75) hx hb dX4_copy_38 (by decide) ?_
      subst hm
      exact eb_vret X hw rfl rfl dX4_copy_75
    · have hm := (if_neg h7).symm.trans hm
      refine lv_aload_n hx hb dX4_copy_14 rfl (lv_at hl 0 rfl) ?_
      refine lv_iload_n hx hb dX4_copy_15 rfl (lv_at hl 2 rfl) ?_
      refine lv_iload hx hb dX4_copy_16 (lv_at hl 4 rfl) ?_
      refine lv_iadd hx hb dX4_copy_18 ?_
      refine lv_iconst (v := 1) hx hb dX4_copy_19 (by decide) ?_
      refine lv_aload_n hx hb dX4_copy_20 rfl (lv_at hl 0 rfl) ?_
      refine lv_iload_n hx hb dX4_copy_21 rfl (lv_at hl 1 rfl) ?_
      refine lv_iload hx hb dX4_copy_22 (lv_at hl 4 rfl) ?_
      refine lv_iadd hx hb dX4_copy_24 ?_
      refine lv_iconst (v := 1) hx hb dX4_copy_25 (by decide) ?_
      obtain ⟨z8, qz8⟩ : ∃ t : Int64, t = m_X4_load σ (v1 + v4) 1 := ⟨_, rfl⟩
      have hm : (fun (z9 : eb_St) => (fun (x10 : Int32) => m_X4_copy_8  n z9 v1 v2 v3 x10) (v4 + 1)) (m_X4_store σ (v2 + v4) 1 z8) = mm := by rw [qz8]; exact hm
      have hc : eb_M l yX4_load (Cond.code yX4_load cX4_load 3 (some .long) :: wsL_law) 1 20 D 33 cy cL ad σ [.ref (ad 1), .int (v1 + v4), .int 1] (some (.long z8)) σ := by rw [qz8]; exact c_X4_load l D cy ad σ (v1 + v4) 1
      refine eb_callV (n := 2) (as := [.int (v1 + v4), .int 1]) (rest := [.int 1, .int (v2 + v4), .ref (ad 1)]) X hw hl.1 1 hc (by decide) ⟨rfl, rfl, rfl⟩ (eb_goodV wi_28_12 wi_11_17 wi_11_18 wi_1_19 wi_11_19) rfl (by decide +kernel) ⟨by decide, by decide⟩ rfl rfl (Nat.le_of_ble_eq_true rfl) dX4_copy_26 ⟨by decide, by decide⟩ (st' := [.long z8, .int 1, .int (v2 + v4), .ref (ad 1)]) rfl (fun H locs hw => ?_)
      obtain ⟨z9, qz9⟩ : ∃ t : eb_St, t = m_X4_store σ (v2 + v4) 1 z8 := ⟨_, rfl⟩
      have hm : (fun (x10 : Int32) => m_X4_copy_8  n z9 v1 v2 v3 x10) (v4 + 1) = mm := by rw [qz9]; exact hm
      have hc : eb_M l yX4_store (Cond.code yX4_store cX4_store 8 none :: wsL_law) 1 20 D 33 cy cL ad σ [.ref (ad 1), .int (v2 + v4), .int 1, .long z8] (none) z9 := by rw [qz9]; exact c_X4_store l D cy ad σ (v2 + v4) 1 z8
      refine eb_callV (n := 3) (as := [.int (v2 + v4), .int 1, .long z8]) (rest := []) X hw hl.1 1 hc (by decide) ⟨rfl, rfl, rfl⟩ (eb_goodV wi_7_8 wi_7_9 wi_7_10 wi_1_19 wi_7_11) rfl (by decide +kernel) ⟨by decide, by decide⟩ rfl rfl (Nat.le_of_ble_eq_true rfl) dX4_copy_29 ⟨by decide, by decide⟩ (st' := []) rfl (fun H locs hw => ?_)
      obtain ⟨x10, ex10⟩ : ∃ z : Int32, z = v4 + 1 := ⟨_, rfl⟩
      have hm : m_X4_copy_8  n z9 v1 v2 v3 x10 = mm := by rw [ex10]; exact hm
      refine lv_iinc (v := x10) (lv' := [(4, .int x10), (0, .ref (ad 1)), (1, .int v1), (2, .int v2), (3, .int v3)]) hx hb dX4_copy_32 hl (k := 4) rfl (by rw [ex10]; exact congrArg (v4 + ·) (by decide)) (by decide) rfl (fun ls hl => ?_)
      refine lv_goto (tgt := 8) hx hb dX4_copy_35 (by decide) ?_
      exact ih z9 v1 v2 v3 x10 (eb_up1 (eb_nle h7) ex10 hn) hm hw (lv_sub hl [1, 2, 3, 4, 0] rfl)
set_option maxHeartbeats 4000000 in
set_option maxRecDepth 100000 in
theorem k_X4_copy_46 {p : Program} {l : Launch} {e : Env} {s : State} {m : MethodId} {args : Array Value} {below : List Frame} {meth : Method} {c : Code} {A : Nat → Prop} {D : va_G} {cy : Nat → ClassId} {ad : Nat → Nat} (X : eb_X p s m args meth c cX4_copy 5 RX4 (Cond.code yX4_copy cX4_copy 5 none :: wsL_law) none D cy A)   : ∀ (n : Nat) (σ : eb_St) (v1 : Int32) (v2 : Int32) (v4 : Int32)   (hn : (v4.toInt + 1).toNat < n) {H : Heap} {locs : List Loc} {ls : Array Slot} {mm : eb_St} (_ : (m_X4_copy_46  n σ v1 v2 v4) = mm) (hw : eb_H D 33 cy cL ad A s.heap σ H locs) (hl : lv_has ls 5 [(0, .ref (ad 1)), (1, .int v1), (2, .int v2), (4, .int v4)]), W p l e ({ frames := 2, cells := 0, slots := 0, locals := 47 } : Room) s m args below meth c H locs 0 0 (MQ below (eb_Q D 33 cy cL ad A (none) mm) args s 0 0 A) (F0 m 46 ls []) := by
  have hx := X.1.1
  have hb := X.1.2.1
  have hown := X.1.2.2.2.1
  have hts := X.1.2.2.2.2
  intro n
  induction n with
  | zero => intro σ v1 v2 v4  hn; exact absurd hn (Nat.not_lt_zero _)
  | succ n ih =>
    intro σ v1 v2 v4  hn H locs ls mm hm hw hl
    have hm : (if v4 < 0 then σ else (fun (z4 : Int64) => (fun (z5 : eb_St) => (fun (x6 : Int32) => m_X4_copy_46  n z5 v1 v2 x6) (v4 + (-1))) (m_X4_store σ (v2 + v4) 1 z4)) (m_X4_load σ (v1 + v4) 1)) = mm := hm
    refine lv_iload hx hb dX4_copy_46 (lv_at hl 3 rfl) ?_
    refine lv_if_lt (tgt := 75) hx hb dX4_copy_48 (by decide) (fun h3 => ?_) (fun h3 => ?_)
    · have hm := (if_pos h3).symm.trans hm
      subst hm
      exact eb_vret X hw rfl rfl dX4_copy_75
    · have hm := (if_neg h3).symm.trans hm
      refine lv_aload_n hx hb dX4_copy_51 rfl (lv_at hl 0 rfl) ?_
      refine lv_iload_n hx hb dX4_copy_52 rfl (lv_at hl 2 rfl) ?_
      refine lv_iload hx hb dX4_copy_53 (lv_at hl 3 rfl) ?_
      refine lv_iadd hx hb dX4_copy_55 ?_
      refine lv_iconst (v := 1) hx hb dX4_copy_56 (by decide) ?_
      refine lv_aload_n hx hb dX4_copy_57 rfl (lv_at hl 0 rfl) ?_
      refine lv_iload_n hx hb dX4_copy_58 rfl (lv_at hl 1 rfl) ?_
      refine lv_iload hx hb dX4_copy_59 (lv_at hl 3 rfl) ?_
      refine lv_iadd hx hb dX4_copy_61 ?_
      refine lv_iconst (v := 1) hx hb dX4_copy_62 (by decide) ?_
      obtain ⟨z4, qz4⟩ : ∃ t : Int64, t = m_X4_load σ (v1 + v4) 1 := ⟨_, rfl⟩
      have hm : (fun (z5 : eb_St) => (fun (x6 : Int32) => m_X4_copy_46  n z5 v1 v2 x6) (v4 + (-1))) (m_X4_store σ (v2 + v4) 1 z4) = mm := by rw [qz4]; exact hm
      have hc : eb_M l yX4_load (Cond.code yX4_load cX4_load 3 (some .long) :: wsL_law) 1 20 D 33 cy cL ad σ [.ref (ad 1), .int (v1 + v4), .int 1] (some (.long z4)) σ := by rw [qz4]; exact c_X4_load l D cy ad σ (v1 + v4) 1
      refine eb_callV (n := 2) (as := [.int (v1 + v4), .int 1]) (rest := [.int 1, .int (v2 + v4), .ref (ad 1)]) X hw hl.1 1 hc (by decide) ⟨rfl, rfl, rfl⟩ (eb_goodV wi_28_12 wi_11_17 wi_11_18 wi_1_19 wi_11_19) rfl (by decide +kernel) ⟨by decide, by decide⟩ rfl rfl (Nat.le_of_ble_eq_true rfl) dX4_copy_63 ⟨by decide, by decide⟩ (st' := [.long z4, .int 1, .int (v2 + v4), .ref (ad 1)]) rfl (fun H locs hw => ?_)
      obtain ⟨z5, qz5⟩ : ∃ t : eb_St, t = m_X4_store σ (v2 + v4) 1 z4 := ⟨_, rfl⟩
      have hm : (fun (x6 : Int32) => m_X4_copy_46  n z5 v1 v2 x6) (v4 + (-1)) = mm := by rw [qz5]; exact hm
      have hc : eb_M l yX4_store (Cond.code yX4_store cX4_store 8 none :: wsL_law) 1 20 D 33 cy cL ad σ [.ref (ad 1), .int (v2 + v4), .int 1, .long z4] (none) z5 := by rw [qz5]; exact c_X4_store l D cy ad σ (v2 + v4) 1 z4
      refine eb_callV (n := 3) (as := [.int (v2 + v4), .int 1, .long z4]) (rest := []) X hw hl.1 1 hc (by decide) ⟨rfl, rfl, rfl⟩ (eb_goodV wi_7_8 wi_7_9 wi_7_10 wi_1_19 wi_7_11) rfl (by decide +kernel) ⟨by decide, by decide⟩ rfl rfl (Nat.le_of_ble_eq_true rfl) dX4_copy_66 ⟨by decide, by decide⟩ (st' := []) rfl (fun H locs hw => ?_)
      obtain ⟨x6, ex6⟩ : ∃ z : Int32, z = v4 + (-1) := ⟨_, rfl⟩
      have hm : m_X4_copy_46  n z5 v1 v2 x6 = mm := by rw [ex6]; exact hm
      refine lv_iinc (v := x6) (lv' := [(4, .int x6), (0, .ref (ad 1)), (1, .int v1), (2, .int v2)]) hx hb dX4_copy_69 hl (k := 3) rfl (by rw [ex6]; exact congrArg (v4 + ·) (by decide)) (by decide) rfl (fun ls hl => ?_)
      refine lv_goto (tgt := 46) hx hb dX4_copy_72 (by decide) ?_
      exact ih z5 v1 v2 x6 (eb_dn (eb_nlt h3) ex6 hn).2.1 hm hw (lv_sub hl [1, 2, 3, 0] rfl)
set_option maxHeartbeats 4000000 in
set_option maxRecDepth 100000 in
theorem c_X4_copy (l : Launch) (D : va_G) (cy : Nat → ClassId) (ad : Nat → Nat) (σ : eb_St) (a0 : Int32) (a1 : Int32) (a2 : Int32)  : eb_M l yX4_copy (Cond.code yX4_copy cX4_copy 5 none :: wsL_law) 2 47 D 33 cy cL ad σ [.ref (ad 1), .int a0, .int a1, .int a2] (none) (m_X4_copy σ a0 a1 a2) := by
  refine eb_start (own := RX4) (by decide) rfl rfl (Nat.le_of_ble_eq_true rfl) ?_
  intro p e s m args below meth c A ls X hw hl
  have hl : lv_has ls 5 [(0, .ref (ad 1)), (1, .int a0), (2, .int a1), (3, .int a2)] := hl
  have hx := X.1.1
  have hb := X.1.2.1
  have hown := X.1.2.2.2.1
  have hts := X.1.2.2.2.2
  generalize hm : m_X4_copy σ a0 a1 a2 = mm
  have hm : (if a0 ≤ a1 then (fun (x2 : Int32) => m_X4_copy_46  ((x2.toInt + 1).toNat + 1) σ a0 a1 x2) (a2 - 1) else m_X4_copy_8  ((a2.toInt - (0 : Int32).toInt).toNat + 1) σ a0 a1 a2 0) = mm := hm
  refine lv_iload_n hx hb dX4_copy_0 rfl (lv_at hl 1 rfl) ?_
  refine lv_iload_n hx hb dX4_copy_1 rfl (lv_at hl 2 rfl) ?_
  refine lv_icmp_le (tgt := 41) hx hb dX4_copy_2 (by decide) (fun h1 => ?_) (fun h1 => ?_)
  · have hm := (if_pos h1).symm.trans hm
    refine lv_iload_n hx hb dX4_copy_41 rfl (lv_at hl 3 rfl) ?_
    refine lv_iconst (v := 1) hx hb dX4_copy_42 (by decide) ?_
    refine lv_isub hx hb dX4_copy_43 ?_
    refine lv_topi (fun x2 ex2 => ?_)
    have hm : m_X4_copy_46  ((x2.toInt + 1).toNat + 1) σ a0 a1 x2 = mm := by rw [ex2]; exact hm
    refine lv_istore (lv' := [(4, .int x2), (0, .ref (ad 1)), (1, .int a0), (2, .int a1), (3, .int a2)]) hx hb dX4_copy_44 hl (by decide) rfl (fun ls hl => ?_)
    exact k_X4_copy_46 X   ((x2.toInt + 1).toNat + 1) σ a0 a1 x2 (Nat.lt_succ_self _) hm hw (lv_sub hl [1, 2, 3, 0] rfl)
  · have hm := (if_neg h1).symm.trans hm
    refine lv_iconst (v := 0) hx hb dX4_copy_5 (by decide) ?_
    refine lv_istore (lv' := [(4, .int 0), (0, .ref (ad 1)), (1, .int a0), (2, .int a1), (3, .int a2)]) hx hb dX4_copy_6 hl (by decide) rfl (fun ls hl => ?_)
    exact k_X4_copy_8 X   ((a2.toInt - (0 : Int32).toInt).toNat + 1) σ a0 a1 a2 0 (Nat.lt_succ_self _) hm hw (lv_sub hl [1, 2, 3, 4, 0] rfl)

set_option maxHeartbeats 4000000 in
set_option maxRecDepth 100000 in
theorem c_X7_get (l : Launch) (D : va_G) (cy : Nat → ClassId) (ad : Nat → Nat) (σ : eb_St) (r : Nat) (a0 : Int32) (br : r < 7) : eb_M l yX7_get (Cond.code yX7_get cX7_get 2 (some .long) :: wsL_law) 0 0 D 33 cy cL ad σ [.ref (ad (19 + r)), .int a0] (some (.long (m_X7_get σ r a0))) σ := by
  refine eb_start (own := RX7) (by decide) rfl rfl (Nat.le_of_ble_eq_true rfl) ?_
  intro p e s m args below meth c A ls X hw hl
  have hl : lv_has ls 2 [(0, .ref (ad (19 + r))), (1, .int a0)] := hl
  have hx := X.1.1
  have hb := X.1.2.1
  have hown := X.1.2.2.2.1
  have hts := X.1.2.2.2.2
  generalize hm : m_X7_get σ r a0 = mm
  have hm : σ.2 (26 + r) (a0 &&& 31).toNatClampNeg = mm := hm
  refine lv_aload_n hx hb dX7_get_0 rfl (lv_at hl 0 rfl) ?_
  refine eb_get (T := TX7) X hw (19 + r) 0 (by omega) (cR_i (by omega)) (by decide) (fun _ h => List.mem_cons_of_mem _ (inlX7 _ h)) (List.mem_cons_of_mem _ wi_3_16) (v := .ref (ad (26 + r))) (eb_sR (cR_t (by omega) 0) (cR_g (by omega))) dX7_get_1 ?_
  refine lv_iload_n hx hb dX7_get_4 rfl (lv_at hl 1 rfl) ?_
  refine lv_bipush (v := 31) hx hb dX7_get_5 (by decide) ?_
  refine lv_iand hx hb dX7_get_7 ?_
  refine eb_lald (n := 32) X hw (26 + r) (by omega) (cX_i (by omega)).1 (cX_i (by omega)).2 (pk_andIn _ 5 (by decide) (by decide)) dX7_get_8 ?_
  subst hm
  exact eb_lret X hw rfl rfl rfl dX7_get_9

set_option maxHeartbeats 4000000 in
set_option maxRecDepth 100000 in
theorem c_X7_set (l : Launch) (D : va_G) (cy : Nat → ClassId) (ad : Nat → Nat) (σ : eb_St) (r : Nat) (a0 : Int32) (a1 : Int64) (br : r < 7) : eb_M l yX7_set (Cond.code yX7_set cX7_set 4 none :: wsL_law) 0 0 D 33 cy cL ad σ [.ref (ad (19 + r)), .int a0, .long a1] (none) (m_X7_set σ r a0 a1) := by
  refine eb_start (own := RX7) (by decide) rfl rfl (Nat.le_of_ble_eq_true rfl) ?_
  intro p e s m args below meth c A ls X hw hl
  have hl : lv_has ls 4 [(0, .ref (ad (19 + r))), (1, .int a0), (2, .long a1)] := hl
  have hx := X.1.1
  have hb := X.1.2.1
  have hown := X.1.2.2.2.1
  have hts := X.1.2.2.2.2
  generalize hm : m_X7_set σ r a0 a1 = mm
  have hm : (if (a0 &&& 31) = 0 then σ else eb_pJ σ (26 + r) ((a0 &&& 31).toNatClampNeg) a1) = mm := hm
  refine lv_iload_n hx hb dX7_set_0 rfl (lv_at hl 1 rfl) ?_
  refine lv_bipush (v := 31) hx hb dX7_set_1 (by decide) ?_
  refine lv_iand hx hb dX7_set_3 ?_
  refine lv_if_eq (tgt := 17) hx hb dX7_set_4 (by decide) (fun h1 => ?_) (fun h1 => ?_)
  · have hm := (if_pos h1).symm.trans hm
    subst hm
    exact eb_vret X hw rfl rfl dX7_set_17
  · have hm := (if_neg h1).symm.trans hm
    refine lv_aload_n hx hb dX7_set_7 rfl (lv_at hl 0 rfl) ?_
    refine eb_get (T := TX7) X hw (19 + r) 0 (by omega) (cR_i (by omega)) (by decide) (fun _ h => List.mem_cons_of_mem _ (inlX7 _ h)) (List.mem_cons_of_mem _ wi_3_16) (v := .ref (ad (26 + r))) (eb_sR (cR_t (by omega) 0) (cR_g (by omega))) dX7_set_8 ?_
    refine lv_iload_n hx hb dX7_set_11 rfl (lv_at hl 1 rfl) ?_
    refine lv_bipush (v := 31) hx hb dX7_set_12 (by decide) ?_
    refine lv_iand hx hb dX7_set_14 ?_
    refine lv_lload_n hx hb dX7_set_15 rfl (lv_at hl 2 rfl) ?_
    refine eb_last (n := 32) X hw (26 + r) (by omega) (cX_i (by omega)).1 (cX_i (by omega)).2 (pk_andIn _ 5 (by decide) (by decide)) dX7_set_16 (fun H locs hw => ?_)
    subst hm
    exact eb_vret X hw rfl rfl dX7_set_17

set_option maxHeartbeats 4000000 in
set_option maxRecDepth 100000 in
theorem c_X7_clear (l : Launch) (D : va_G) (cy : Nat → ClassId) (ad : Nat → Nat) (σ : eb_St) (r : Nat) (a0 : Int64) (br : r < 7) : eb_M l yX7_clear (Cond.code yX7_clear cX7_clear 3 none :: wsL_law) 1 24 D 33 cy cL ad σ [.ref (ad (19 + r)), .long a0] (none) (m_X7_clear σ r a0) := by
  refine eb_start (own := RX7) (by decide) rfl rfl (Nat.le_of_ble_eq_true rfl) ?_
  intro p e s m args below meth c A ls X hw hl
  have hl : lv_has ls 3 [(0, .ref (ad (19 + r))), (1, .long a0)] := hl
  have hx := X.1.1
  have hb := X.1.2.1
  have hown := X.1.2.2.2.1
  have hts := X.1.2.2.2.2
  generalize hm : m_X7_clear σ r a0 = mm
  have hm : (fun (z1 : eb_St) => eb_pJ z1 (19 + r) 1 a0) (m_J7_fill_d0a16 σ (26 + r) 32 0) = mm := hm
  refine lv_aload_n hx hb dX7_clear_0 rfl (lv_at hl 0 rfl) ?_
  refine eb_get (T := TX7) X hw (19 + r) 0 (by omega) (cR_i (by omega)) (by decide) (fun _ h => List.mem_cons_of_mem _ (inlX7 _ h)) (List.mem_cons_of_mem _ wi_3_16) (v := .ref (ad (26 + r))) (eb_sR (cR_t (by omega) 0) (cR_g (by omega))) dX7_clear_1 ?_
  refine lv_lconst (v := 0) hx hb dX7_clear_4 (by decide) ?_
  obtain ⟨z1, qz1⟩ : ∃ t : eb_St, t = m_J7_fill_d0a16 σ (26 + r) 32 0 := ⟨_, rfl⟩
  have hm : eb_pJ z1 (19 + r) 1 a0 = mm := by rw [qz1]; exact hm
  have hc : eb_M l yJ7_fill_d0a16 (Cond.code yJ7_fill_d0a16 cJ7_fill_d0a16 5 none :: wsL_law) 0 0 D 33 cy cL ad σ [.ref (ad (26 + r)), .long 0] (none) z1 := by rw [qz1]; exact c_J7_fill_d0a16 l D cy ad σ (26 + r) 32 0 (by omega) (cX_i (by omega)).1 (cX_i (by omega)).2 (by decide)
  refine eb_callS (n := 2) X hw hl.1 (rest := []) hc (eb_goodS wi_9_3 wi_8_10 wi_7_21 wi_8_11) rfl (by decide +kernel) ⟨by decide, by decide⟩ rfl rfl (Nat.le_of_ble_eq_true rfl) dX7_clear_5 ⟨by decide, by decide⟩ (st' := []) rfl (fun H locs hw => ?_)
  refine lv_aload_n hx hb dX7_clear_8 rfl (lv_at hl 0 rfl) ?_
  refine lv_lload_n hx hb dX7_clear_9 rfl (lv_at hl 1 rfl) ?_
  refine eb_putJ (T := TX7) X hw (19 + r) 1 (by omega) (cR_i (by omega)) (by decide) (cR_t (by omega) 1) (fun _ h => List.mem_cons_of_mem _ (inlX7 _ h)) (List.mem_cons_of_mem _ wi_9_2) tyX7 tyX7_ok nmX7 rfl rfl rfl dX7_clear_10 (fun H locs hw => ?_)
  subst hm
  exact eb_vret X hw rfl rfl dX7_clear_13
