def m_X1_clear (σ : eb_St)  : eb_St := eb_pI (eb_pJ (eb_pJ (eb_pJ (eb_pJ (eb_pI σ 8 1 0) 8 2 0) 8 3 0) 8 4 0) 8 5 0) 8 6 0

def m_X1_mstatus (σ : eb_St)  : Int64 := eb_lshl ((σ.1 8 1).toInt64) 11

def m_X1_trap (σ : eb_St) (a0 : Int64) (a1 : Int32) (a2 : Int64) : eb_St := eb_pJ (eb_pJ (eb_pJ σ 8 3 (a0 &&& (-4))) 8 4 a1.toInt64) 8 5 a2

def m_X1_isWritable (a0 : Int32) : Bool := (if a0 = 768 then true else if a0 = 832 then true else if a0 = 833 then true else if a0 = 834 then true else if a0 = 835 then true else if a0 = 928 then true else if a0 = 930 then true else (if a0 < 944 then false else (if (959 : Int32) < a0 then false else true)))

def m_X1_isThere (a0 : Int32) : Bool := (fun (z1 : Bool) => (if (eb_b z1) = 0 then (if a0 = 2818 then true else (if a0 = 3860 then true else false)) else true)) (m_X1_isWritable a0)

def m_X1_read (σ : eb_St) (a0 : Int32) : Int64 := (if a0 = 768 then (fun (z2 : Int64) => z2) (m_X1_mstatus σ) else if a0 = 832 then σ.2 8 2 else if a0 = 833 then σ.2 8 3 else if a0 = 834 then σ.2 8 4 else if a0 = 835 then σ.2 8 5 else if a0 = 928 then (fun (z8 : Int64) => z8) (m_X6_readConfigs σ 0) else if a0 = 930 then (fun (z10 : Int64) => z10) (m_X6_readConfigs σ 8) else if a0 = 2818 then (σ.1 8 6).toInt64 else (if a0 < 944 then 0 else (if (959 : Int32) < a0 then 0 else σ.2 5 (a0 - 944).toNatClampNeg)))

def m_X1_write (σ : eb_St) (a0 : Int32) (a1 : Int64) : eb_St := (if a0 = 768 then (if ((eb_lushr a1 11) &&& 3) = 3 then eb_pI σ 8 1 3 else eb_pI σ 8 1 0) else if a0 = 832 then eb_pJ σ 8 2 a1 else if a0 = 833 then eb_pJ σ 8 3 (a1 &&& (-4)) else if a0 = 834 then eb_pJ σ 8 4 a1 else if a0 = 835 then eb_pJ σ 8 5 a1 else if a0 = 928 then σ else if a0 = 930 then (fun (z9 : eb_St) => z9) (m_X6_writeConfigs σ a1) else (fun (z10 : eb_St) => z10) (m_X6_writeAddress σ (a0 - 944) a1))

def m_X8_meet (a0 : Int64) (a1 : Int64) (a2 : Int64) (a3 : Int64) : Bool := (if (a2 + a3) ≤ a0 then false else (if (a0 + a1) ≤ a2 then false else true))

def m_X8_take (σ : eb_St) (a0 : Nat) : eb_St := (fun (z1 : Int64) => (fun (z2 : Int64) => (fun (z3 : Int64) => (fun (z4 : Int64) => (fun (z5 : Int64) => (fun (z6 : Int64) => (fun (z7 : Int64) => eb_pJ (eb_pJ (eb_pJ (eb_pJ (eb_pJ (eb_pJ (eb_pJ σ 11 0 z1) 11 1 z2) 11 2 z3) 11 3 z4) 11 4 z5) 11 5 z6) 11 6 z7) (m_X7_get (eb_pJ (eb_pJ (eb_pJ (eb_pJ (eb_pJ (eb_pJ σ 11 0 z1) 11 1 z2) 11 2 z3) 11 3 z4) 11 4 z5) 11 5 z6) a0 16)) (m_X7_get (eb_pJ (eb_pJ (eb_pJ (eb_pJ (eb_pJ σ 11 0 z1) 11 1 z2) 11 2 z3) 11 3 z4) 11 4 z5) a0 15)) (m_X7_get (eb_pJ (eb_pJ (eb_pJ (eb_pJ σ 11 0 z1) 11 1 z2) 11 2 z3) 11 3 z4) a0 14)) (m_X7_get (eb_pJ (eb_pJ (eb_pJ σ 11 0 z1) 11 1 z2) 11 2 z3) a0 13)) (m_X7_get (eb_pJ (eb_pJ σ 11 0 z1) 11 1 z2) a0 12)) (m_X7_get (eb_pJ σ 11 0 z1) a0 11)) (m_X7_get σ a0 10)

def m_X8_isPowerOfTwo (a0 : Int64) (a1 : Int32) (a2 : Int32) : Bool := (if a0 < a1.toInt64 then false else (if a2.toInt64 < a0 then false else (if (a0 &&& (a0 - 1)) = 0 then true else false)))

def m_X8_liesAligned (a0 : Int64) (a1 : Int64) : Bool := (if a0 < 0 then false else (if (65536 - a1) < a0 then false else (if (a0 &&& (a1 - 1)) = 0 then true else false)))

def m_X8_isShareToldRightly (σ : eb_St)  : Bool := (fun (z1 : Bool) => (if (eb_b z1) = 0 then false else (fun (z3 : Bool) => (if (eb_b z3) = 0 then false else (fun (z5 : Bool) => (if (eb_b z5) = 0 then true else false)) (m_X8_meet (σ.2 11 0) (σ.2 11 1) (σ.2 11 5) (σ.2 11 6)))) (m_X8_liesAligned (σ.2 11 5) (σ.2 11 6)))) (m_X8_isPowerOfTwo (σ.2 11 6) 8 4096)

def m_X8_isToldRightly_84  (σ : eb_St)  : Bool := (if ((σ.2 11 4) &&& 3) = 0 then (if (σ.2 11 4) < 0 then false else (if (σ.2 11 1) ≤ (σ.2 11 4) then false else (if (σ.2 11 6) = 0 then true else (fun (z14 : Bool) => (if (eb_b z14) = 0 then false else true)) (m_X8_isShareToldRightly σ)))) else false)
def m_X8_isToldRightly (σ : eb_St)  : Bool := (fun (z1 : Bool) => (if (eb_b z1) = 0 then false else (fun (z3 : Bool) => (if (eb_b z3) = 0 then false else (if (σ.2 11 3) < 0 then false else (if (σ.2 11 1) < (σ.2 11 3) then false else (if (σ.2 11 3) = 0 then m_X8_isToldRightly_84  σ else (if (σ.2 11 2) < 0 then false else (if (65536 - (σ.2 11 3)) < (σ.2 11 2) then false else m_X8_isToldRightly_84  σ))))))) (m_X8_liesAligned (σ.2 11 0) (σ.2 11 1)))) (m_X8_isPowerOfTwo (σ.2 11 1) 32 16384)

def m_X2_begin_58  (σ : eb_St) (v0 : Nat) (v2 : Int64) (v4 : Int64) (s0 : Int32) (s1 : Nat) : eb_St := (fun (z2 : eb_St) => z2) (m_X7_clear (eb_pJ (eb_pJ (eb_pI (eb_pI (eb_pI σ (13 + s1) 5 s0) (13 + v0) 7 0) (13 + v0) 8 0) (13 + v0) 9 v2) (13 + v0) 10 v4) v0 ((((eb_pJ (eb_pJ (eb_pI (eb_pI (eb_pI σ (13 + s1) 5 s0) (13 + v0) 7 0) (13 + v0) 8 0) (13 + v0) 9 v2) (13 + v0) 10 v4).1 (13 + v0) 2) + ((eb_pJ (eb_pJ (eb_pI (eb_pI (eb_pI σ (13 + s1) 5 s0) (13 + v0) 7 0) (13 + v0) 8 0) (13 + v0) 9 v2) (13 + v0) 10 v4).1 (13 + v0) 4)).toInt64))
def m_X2_begin (σ : eb_St) (ee : Nat) (a1 : Int64) (a2 : Int64) : eb_St := (if ((eb_pI (eb_pI (eb_pI (eb_pI (eb_pI σ (13 + ee) 1 1) (13 + ee) 2 ((σ.2 11 0).toInt32)) (13 + ee) 3 ((σ.2 11 1).toInt32)) (13 + ee) 4 ((σ.2 11 4).toInt32)) (13 + ee) 6 ((σ.2 11 6).toInt32)).1 (13 + ee) 6) = 0 then m_X2_begin_58  (eb_pI (eb_pI (eb_pI (eb_pI (eb_pI σ (13 + ee) 1 1) (13 + ee) 2 ((σ.2 11 0).toInt32)) (13 + ee) 3 ((σ.2 11 1).toInt32)) (13 + ee) 4 ((σ.2 11 4).toInt32)) (13 + ee) 6 ((σ.2 11 6).toInt32)) ee a1 a2 0 ee else m_X2_begin_58  (eb_pI (eb_pI (eb_pI (eb_pI (eb_pI σ (13 + ee) 1 1) (13 + ee) 2 ((σ.2 11 0).toInt32)) (13 + ee) 3 ((σ.2 11 1).toInt32)) (13 + ee) 4 ((σ.2 11 4).toInt32)) (13 + ee) 6 ((σ.2 11 6).toInt32)) ee a1 a2 ((σ.2 11 5).toInt32) ee)

def m_X2_fact (σ : eb_St) (ee : Nat) (a0 : Int32) : Int32 := (if (σ.1 (13 + ee) 1) = 0 then 0 else (if a0 = 0 then σ.1 (13 + ee) 1 else if a0 = 1 then σ.1 (13 + ee) 2 else if a0 = 2 then σ.1 (13 + ee) 3 else if a0 = 3 then σ.1 (13 + ee) 4 else if a0 = 4 then σ.1 (13 + ee) 5 else if a0 = 5 then σ.1 (13 + ee) 6 else if a0 = 6 then σ.1 (13 + ee) 7 else if a0 = 7 then σ.1 (13 + ee) 8 else 0))
set_option maxHeartbeats 4000000 in
set_option maxRecDepth 100000 in
theorem c_X1_clear (l : Launch) (D : va_G) (cy : Nat → ClassId) (ad : Nat → Nat) (σ : eb_St)   : eb_M l yX1_clear (Cond.code yX1_clear cX1_clear 1 none :: wsL_law) 0 0 D 33 cy cL ad σ [.ref (ad 8)] (none) (m_X1_clear σ) := by
  refine eb_start (own := RX1) (by decide) rfl rfl (Nat.le_of_ble_eq_true rfl) ?_
  intro p e s m args below meth c A ls X hw hl
  have hl : lv_has ls 1 [(0, .ref (ad 8))] := hl
  have hx := X.1.1
  have hb := X.1.2.1
  have hown := X.1.2.2.2.1
  have hts := X.1.2.2.2.2
  generalize hm : m_X1_clear σ = mm
  have hm : eb_pI (eb_pJ (eb_pJ (eb_pJ (eb_pJ (eb_pI σ 8 1 0) 8 2 0) 8 3 0) 8 4 0) 8 5 0) 8 6 0 = mm := hm
  refine lv_aload_n hx hb dX1_clear_0 rfl (lv_at hl 0 rfl) ?_
  refine lv_iconst (v := 0) hx hb dX1_clear_1 (by decide) ?_
  refine eb_putI (T := TX1) X hw 8 1 (by decide) ⟨rfl, rfl, rfl⟩ (by decide) rfl (fun _ h => List.mem_cons_of_mem _ (inlX1 _ h)) (List.mem_cons_of_mem _ wi_8_16) tyX1 tyX1_ok nmX1 rfl rfl rfl dX1_clear_2 (fun H locs hw => ?_)
  refine lv_aload_n hx hb dX1_clear_5 rfl (lv_at hl 0 rfl) ?_
  refine lv_lconst (v := 0) hx hb dX1_clear_6 (by decide) ?_
  refine eb_putJ (T := TX1) X hw 8 2 (by decide) ⟨rfl, rfl, rfl⟩ (by decide) rfl (fun _ h => List.mem_cons_of_mem _ (inlX1 _ h)) (List.mem_cons_of_mem _ wi_8_17) tyX1 tyX1_ok nmX1 rfl rfl rfl dX1_clear_7 (fun H locs hw => ?_)
  refine lv_aload_n hx hb dX1_clear_10 rfl (lv_at hl 0 rfl) ?_
  refine lv_lconst (v := 0) hx hb dX1_clear_11 (by decide) ?_
  refine eb_putJ (T := TX1) X hw 8 3 (by decide) ⟨rfl, rfl, rfl⟩ (by decide) rfl (fun _ h => List.mem_cons_of_mem _ (inlX1 _ h)) (List.mem_cons_of_mem _ wi_8_18) tyX1 tyX1_ok nmX1 rfl rfl rfl dX1_clear_12 (fun H locs hw => ?_)
  refine lv_aload_n hx hb dX1_clear_15 rfl (lv_at hl 0 rfl) ?_
  refine lv_lconst (v := 0) hx hb dX1_clear_16 (by decide) ?_
  refine eb_putJ (T := TX1) X hw 8 4 (by decide) ⟨rfl, rfl, rfl⟩ (by decide) rfl (fun _ h => List.mem_cons_of_mem _ (inlX1 _ h)) (List.mem_cons_of_mem _ wi_8_19) tyX1 tyX1_ok nmX1 rfl rfl rfl dX1_clear_17 (fun H locs hw => ?_)
  refine lv_aload_n hx hb dX1_clear_20 rfl (lv_at hl 0 rfl) ?_
  refine lv_lconst (v := 0) hx hb dX1_clear_21 (by decide) ?_
  refine eb_putJ (T := TX1) X hw 8 5 (by decide) ⟨rfl, rfl, rfl⟩ (by decide) rfl (fun _ h => List.mem_cons_of_mem _ (inlX1 _ h)) (List.mem_cons_of_mem _ wi_8_20) tyX1 tyX1_ok nmX1 rfl rfl rfl dX1_clear_22 (fun H locs hw => ?_)
  refine lv_aload_n hx hb dX1_clear_25 rfl (lv_at hl 0 rfl) ?_
  refine lv_iconst (v := 0) hx hb dX1_clear_26 (by decide) ?_
  refine eb_putI (T := TX1) X hw 8 6 (by decide) ⟨rfl, rfl, rfl⟩ (by decide) rfl (fun _ h => List.mem_cons_of_mem _ (inlX1 _ h)) (List.mem_cons_of_mem _ wi_8_21) tyX1 tyX1_ok nmX1 rfl rfl rfl dX1_clear_27 (fun H locs hw => ?_)
  subst hm
  exact eb_vret X hw rfl rfl dX1_clear_30

set_option maxHeartbeats 4000000 in
set_option maxRecDepth 100000 in
theorem c_X1_mstatus (l : Launch) (D : va_G) (cy : Nat → ClassId) (ad : Nat → Nat) (σ : eb_St)   : eb_M l yX1_mstatus (Cond.code yX1_mstatus cX1_mstatus 1 (some .long) :: wsL_law) 0 0 D 33 cy cL ad σ [.ref (ad 8)] (some (.long (m_X1_mstatus σ))) σ := by
  refine eb_start (own := RX1) (by decide) rfl rfl (Nat.le_of_ble_eq_true rfl) ?_
  intro p e s m args below meth c A ls X hw hl
  have hl : lv_has ls 1 [(0, .ref (ad 8))] := hl
  have hx := X.1.1
  have hb := X.1.2.1
  have hown := X.1.2.2.2.1
  have hts := X.1.2.2.2.2
  generalize hm : m_X1_mstatus σ = mm
  have hm : eb_lshl ((σ.1 8 1).toInt64) 11 = mm := hm
  refine lv_aload_n hx hb dX1_mstatus_0 rfl (lv_at hl 0 rfl) ?_
  refine eb_get (T := TX1) X hw 8 1 (by decide) ⟨rfl, rfl, rfl⟩ (by decide) (fun _ h => List.mem_cons_of_mem _ (inlX1 _ h)) (List.mem_cons_of_mem _ wi_8_16) (v := .int (σ.1 8 1)) rfl dX1_mstatus_1 ?_
  refine lv_i2l (v := (σ.1 8 1).toInt64) hx hb dX1_mstatus_4 rfl ?_
  refine lv_bipush (v := 11) hx hb dX1_mstatus_5 (by decide) ?_
  refine lv_lshl (v := eb_lshl ((σ.1 8 1).toInt64) 11) hx hb dX1_mstatus_7 rfl ?_
  subst hm
  exact eb_lret X hw rfl rfl rfl dX1_mstatus_8

set_option maxHeartbeats 4000000 in
set_option maxRecDepth 100000 in
theorem c_X1_trap (l : Launch) (D : va_G) (cy : Nat → ClassId) (ad : Nat → Nat) (σ : eb_St) (a0 : Int64) (a1 : Int32) (a2 : Int64)  : eb_M l yX1_trap (Cond.code yX1_trap cX1_trap 6 none :: wsL_law) 0 0 D 33 cy cL ad σ [.ref (ad 8), .long a0, .int a1, .long a2] (none) (m_X1_trap σ a0 a1 a2) := by
  refine eb_start (own := RX1) (by decide) rfl rfl (Nat.le_of_ble_eq_true rfl) ?_
  intro p e s m args below meth c A ls X hw hl
  have hl : lv_has ls 6 [(0, .ref (ad 8)), (1, .long a0), (3, .int a1), (4, .long a2)] := hl
  have hx := X.1.1
  have hb := X.1.2.1
  have hown := X.1.2.2.2.1
  have hts := X.1.2.2.2.2
  generalize hm : m_X1_trap σ a0 a1 a2 = mm
  have hm : eb_pJ (eb_pJ (eb_pJ σ 8 3 (a0 &&& (-4))) 8 4 a1.toInt64) 8 5 a2 = mm := hm
  refine lv_aload_n hx hb dX1_trap_0 rfl (lv_at hl 0 rfl) ?_
  refine lv_lload_n hx hb dX1_trap_1 rfl (lv_at hl 1 rfl) ?_
  refine lv_ldc2 hx hb hown (hts _ (List.mem_cons_of_mem _ wi_21_21)) dX1_trap_2 ?_
  refine lv_land hx hb dX1_trap_5 ?_
  refine eb_putJ (T := TX1) X hw 8 3 (by decide) ⟨rfl, rfl, rfl⟩ (by decide) rfl (fun _ h => List.mem_cons_of_mem _ (inlX1 _ h)) (List.mem_cons_of_mem _ wi_8_18) tyX1 tyX1_ok nmX1 rfl rfl rfl dX1_trap_6 (fun H locs hw => ?_)
  refine lv_aload_n hx hb dX1_trap_9 rfl (lv_at hl 0 rfl) ?_
  refine lv_iload_n hx hb dX1_trap_10 rfl (lv_at hl 2 rfl) ?_
  refine lv_i2l (v := a1.toInt64) hx hb dX1_trap_11 rfl ?_
  refine eb_putJ (T := TX1) X hw 8 4 (by decide) ⟨rfl, rfl, rfl⟩ (by decide) rfl (fun _ h => List.mem_cons_of_mem _ (inlX1 _ h)) (List.mem_cons_of_mem _ wi_8_19) tyX1 tyX1_ok nmX1 rfl rfl rfl dX1_trap_12 (fun H locs hw => ?_)
  refine lv_aload_n hx hb dX1_trap_15 rfl (lv_at hl 0 rfl) ?_
  refine lv_lload hx hb dX1_trap_16 (lv_at hl 3 rfl) ?_
  refine eb_putJ (T := TX1) X hw 8 5 (by decide) ⟨rfl, rfl, rfl⟩ (by decide) rfl (fun _ h => List.mem_cons_of_mem _ (inlX1 _ h)) (List.mem_cons_of_mem _ wi_8_20) tyX1 tyX1_ok nmX1 rfl rfl rfl dX1_trap_18 (fun H locs hw => ?_)
  subst hm
  exact eb_vret X hw rfl rfl dX1_trap_21

set_option maxHeartbeats 4000000 in
set_option maxRecDepth 100000 in
theorem c_X1_isWritable (l : Launch) (D : va_G) (cy : Nat → ClassId) (ad : Nat → Nat) (σ : eb_St) (a0 : Int32)  : eb_M l yX1_isWritable (Cond.code yX1_isWritable cX1_isWritable 2 (some .boolean) :: wsL_law) 0 0 D 33 cy cL ad σ [.ref (ad 8), .int a0] (some (.int (eb_b (m_X1_isWritable a0)))) σ := by
  refine eb_start (own := RX1) (by decide) rfl rfl (Nat.le_of_ble_eq_true rfl) ?_
  intro p e s m args below meth c A ls X hw hl
  have hl : lv_has ls 2 [(0, .ref (ad 8)), (1, .int a0)] := hl
  have hx := X.1.1
  have hb := X.1.2.1
  have hown := X.1.2.2.2.1
  have hts := X.1.2.2.2.2
  generalize hm : m_X1_isWritable a0 = mm
  have hm : (if a0 = 768 then true else if a0 = 832 then true else if a0 = 833 then true else if a0 = 834 then true else if a0 = 835 then true else if a0 = 928 then true else if a0 = 930 then true else (if a0 < 944 then false else (if (959 : Int32) < a0 then false else true))) = mm := hm
  refine lv_iload_n hx hb dX1_isWritable_0 rfl (lv_at hl 1 rfl) ?_
  by_cases h1 : a0 = 768
  · have hm := (if_pos h1).symm.trans hm
    refine lv_lookup (off := 67) (tgt := 68) hx hb dX1_isWritable_1 (by decide) (by rw [h1]; decide) (by decide) ?_
    refine lv_iconst (v := 1) hx hb dX1_isWritable_68 (by decide) ?_
    subst hm
    exact eb_zret X hw rfl rfl rfl rfl dX1_isWritable_69
  · have hm := (if_neg h1).symm.trans hm
    by_cases h2 : a0 = 832
    · have hm := (if_pos h2).symm.trans hm
      refine lv_lookup (off := 67) (tgt := 68) hx hb dX1_isWritable_1 (by decide) (by rw [h2]; decide) (by decide) ?_
      refine lv_iconst (v := 1) hx hb dX1_isWritable_68 (by decide) ?_
      subst hm
      exact eb_zret X hw rfl rfl rfl rfl dX1_isWritable_69
    · have hm := (if_neg h2).symm.trans hm
      by_cases h3 : a0 = 833
      · have hm := (if_pos h3).symm.trans hm
        refine lv_lookup (off := 67) (tgt := 68) hx hb dX1_isWritable_1 (by decide) (by rw [h3]; decide) (by decide) ?_
        refine lv_iconst (v := 1) hx hb dX1_isWritable_68 (by decide) ?_
        subst hm
        exact eb_zret X hw rfl rfl rfl rfl dX1_isWritable_69
      · have hm := (if_neg h3).symm.trans hm
        by_cases h4 : a0 = 834
        · have hm := (if_pos h4).symm.trans hm
          refine lv_lookup (off := 67) (tgt := 68) hx hb dX1_isWritable_1 (by decide) (by rw [h4]; decide) (by decide) ?_
          refine lv_iconst (v := 1) hx hb dX1_isWritable_68 (by decide) ?_
          subst hm
          exact eb_zret X hw rfl rfl rfl rfl dX1_isWritable_69
        · have hm := (if_neg h4).symm.trans hm
          by_cases h5 : a0 = 835
          · have hm := (if_pos h5).symm.trans hm
            refine lv_lookup (off := 67) (tgt := 68) hx hb dX1_isWritable_1 (by decide) (by rw [h5]; decide) (by decide) ?_
            refine lv_iconst (v := 1) hx hb dX1_isWritable_68 (by decide) ?_
            subst hm
            exact eb_zret X hw rfl rfl rfl rfl dX1_isWritable_69
          · have hm := (if_neg h5).symm.trans hm
            by_cases h6 : a0 = 928
            · have hm := (if_pos h6).symm.trans hm
              refine lv_lookup (off := 67) (tgt := 68) hx hb dX1_isWritable_1 (by decide) (by rw [h6]; decide) (by decide) ?_
              refine lv_iconst (v := 1) hx hb dX1_isWritable_68 (by decide) ?_
              subst hm
              exact eb_zret X hw rfl rfl rfl rfl dX1_isWritable_69
            · have hm := (if_neg h6).symm.trans hm
              by_cases h7 : a0 = 930
              · have hm := (if_pos h7).symm.trans hm
                refine lv_lookup (off := 67) (tgt := 68) hx hb dX1_isWritable_1 (by decide) (by rw [h7]; decide) (by decide) ?_
                refine lv_iconst (v := 1) hx hb dX1_isWritable_68 (by decide) ?_
                subst hm
                exact eb_zret X hw rfl rfl rfl rfl dX1_isWritable_69
              · have hm := (if_neg h7).symm.trans hm
                refine lv_lookup (off := 69) (tgt := 70) hx hb dX1_isWritable_1 (by decide) (by show Op.lookupswitch.offset [(768, 67), (832, 67), (833, 67), (834, 67), (835, 67), (928, 67), (930, 67)] _ _ = _; rw [lv_osw h1 (by decide)]; rw [lv_osw h2 (by decide)]; rw [lv_osw h3 (by decide)]; rw [lv_osw h4 (by decide)]; rw [lv_osw h5 (by decide)]; rw [lv_osw h6 (by decide)]; rw [lv_osw h7 (by decide)]; rfl) (by decide) ?_
                refine lv_iload_n hx hb dX1_isWritable_70 rfl (lv_at hl 1 rfl) ?_
                refine lv_sipush (v := 944) hx hb dX1_isWritable_71 (by decide) ?_
                refine lv_icmp_lt (tgt := 88) hx hb dX1_isWritable_74 (by decide) (fun h8 => ?_) (fun h8 => ?_)
                · have hm := (if_pos h8).symm.trans hm
                  refine lv_iconst (v := 0) hx hb dX1_isWritable_88 (by decide) ?_
                  subst hm
                  exact eb_zret X hw rfl rfl rfl rfl dX1_isWritable_89
                · have hm := (if_neg h8).symm.trans hm
                  refine lv_iload_n hx hb dX1_isWritable_77 rfl (lv_at hl 1 rfl) ?_
                  refine lv_sipush (v := 959) hx hb dX1_isWritable_78 (by decide) ?_
                  refine lv_icmp_gt (tgt := 88) hx hb dX1_isWritable_81 (by decide) (fun h9 => ?_) (fun h9 => ?_)
                  · have hm := (if_pos h9).symm.trans hm
                    refine lv_iconst (v := 0) hx hb dX1_isWritable_88 (by decide) ?_
                    subst hm
                    exact eb_zret X hw rfl rfl rfl rfl dX1_isWritable_89
                  · have hm := (if_neg h9).symm.trans hm
                    refine lv_iconst (v := 1) hx hb dX1_isWritable_84 (by decide) ?_
                    refine lv_goto (tgt := 89) hx hb dX1_isWritable_85 (by decide) ?_
                    subst hm
                    exact eb_zret X hw rfl rfl rfl rfl dX1_isWritable_89

set_option maxHeartbeats 4000000 in
set_option maxRecDepth 100000 in
theorem c_X1_isThere (l : Launch) (D : va_G) (cy : Nat → ClassId) (ad : Nat → Nat) (σ : eb_St) (a0 : Int32)  : eb_M l yX1_isThere (Cond.code yX1_isThere cX1_isThere 2 (some .boolean) :: wsL_law) 1 21 D 33 cy cL ad σ [.ref (ad 8), .int a0] (some (.int (eb_b (m_X1_isThere a0)))) σ := by
  refine eb_start (own := RX1) (by decide) rfl rfl (Nat.le_of_ble_eq_true rfl) ?_
  intro p e s m args below meth c A ls X hw hl
  have hl : lv_has ls 2 [(0, .ref (ad 8)), (1, .int a0)] := hl
  have hx := X.1.1
  have hb := X.1.2.1
  have hown := X.1.2.2.2.1
  have hts := X.1.2.2.2.2
  generalize hm : m_X1_isThere a0 = mm
  have hm : (fun (z1 : Bool) => (if (eb_b z1) = 0 then (if a0 = 2818 then true else (if a0 = 3860 then true else false)) else true)) (m_X1_isWritable a0) = mm := hm
  refine lv_aload_n hx hb dX1_isThere_0 rfl (lv_at hl 0 rfl) ?_
  refine lv_iload_n hx hb dX1_isThere_1 rfl (lv_at hl 1 rfl) ?_
  obtain ⟨z1, qz1⟩ : ∃ t : Bool, t = m_X1_isWritable a0 := ⟨_, rfl⟩
  have hm : (if (eb_b z1) = 0 then (if a0 = 2818 then true else (if a0 = 3860 then true else false)) else true) = mm := by rw [qz1]; exact hm
  have hc : eb_M l yX1_isWritable (Cond.code yX1_isWritable cX1_isWritable 2 (some .boolean) :: wsL_law) 0 0 D 33 cy cL ad σ [.ref (ad 8), .int a0] (some (.int (eb_b z1))) σ := by rw [qz1]; exact c_X1_isWritable l D cy ad σ a0
  refine eb_callV (n := 1) (as := [.int a0]) (rest := []) X hw hl.1 8 hc (by decide) ⟨rfl, rfl, rfl⟩ (eb_goodV wi_20_19 wi_20_12 wi_20_13 wi_2_3 wi_20_14) rfl (by decide +kernel) ⟨by decide, by decide⟩ rfl rfl (Nat.le_of_ble_eq_true rfl) dX1_isThere_2 ⟨by decide, by decide⟩ (st' := [.int (eb_b z1)]) rfl (fun H locs hw => ?_)
  refine lv_if_ne (tgt := 22) hx hb dX1_isThere_5 (by decide) (fun h2 => ?_) (fun h2 => ?_)
  · have hm := (if_neg h2).symm.trans hm
    refine lv_iconst (v := 1) hx hb dX1_isThere_22 (by decide) ?_
    refine lv_goto (tgt := 27) hx hb dX1_isThere_23 (by decide) ?_
    subst hm
    exact eb_zret X hw rfl rfl rfl rfl dX1_isThere_27
  · have hm := (if_pos h2).symm.trans hm
    refine lv_iload_n hx hb dX1_isThere_8 rfl (lv_at hl 1 rfl) ?_
    refine lv_sipush (v := 2818) hx hb dX1_isThere_9 (by decide) ?_
    refine lv_icmp_eq (tgt := 22) hx hb dX1_isThere_12 (by decide) (fun h3 => ?_) (fun h3 => ?_)
    · have hm := (if_pos h3).symm.trans hm
      refine lv_iconst (v := 1) hx hb dX1_isThere_22 (by decide) ?_
      refine lv_goto (tgt := 27) hx hb dX1_isThere_23 (by decide) ?_
      subst hm
      exact eb_zret X hw rfl rfl rfl rfl dX1_isThere_27
    · have hm := (if_neg h3).symm.trans hm
      refine lv_iload_n hx hb dX1_isThere_15 rfl (lv_at hl 1 rfl) ?_
      refine lv_sipush (v := 3860) hx hb dX1_isThere_16 (by decide) ?_
      refine lv_icmp_ne (tgt := 26) hx hb dX1_isThere_19 (by decide) (fun h4 => ?_) (fun h4 => ?_)
      · have hm := (if_neg h4).symm.trans hm
        refine lv_iconst (v := 0) hx hb dX1_isThere_26 (by decide) ?_
        subst hm
        exact eb_zret X hw rfl rfl rfl rfl dX1_isThere_27
      · have hm := (if_pos h4).symm.trans hm
        refine lv_iconst (v := 1) hx hb dX1_isThere_22 (by decide) ?_
        refine lv_goto (tgt := 27) hx hb dX1_isThere_23 (by decide) ?_
        subst hm
        exact eb_zret X hw rfl rfl rfl rfl dX1_isThere_27

set_option maxHeartbeats 4000000 in
set_option maxRecDepth 100000 in
theorem c_X1_read (l : Launch) (D : va_G) (cy : Nat → ClassId) (ad : Nat → Nat) (σ : eb_St) (a0 : Int32)  : eb_M l yX1_read (Cond.code yX1_read cX1_read 3 (some .long) :: wsL_law) 2 45 D 33 cy cL ad σ [.ref (ad 8), .int a0] (some (.long (m_X1_read σ a0))) σ := by
  refine eb_start (own := RX1) (by decide) rfl rfl (Nat.le_of_ble_eq_true rfl) ?_
  intro p e s m args below meth c A ls X hw hl
  have hl : lv_has ls 3 [(0, .ref (ad 8)), (1, .int a0)] := hl
  have hx := X.1.1
  have hb := X.1.2.1
  have hown := X.1.2.2.2.1
  have hts := X.1.2.2.2.2
  generalize hm : m_X1_read σ a0 = mm
  have hm : (if a0 = 768 then (fun (z2 : Int64) => z2) (m_X1_mstatus σ) else if a0 = 832 then σ.2 8 2 else if a0 = 833 then σ.2 8 3 else if a0 = 834 then σ.2 8 4 else if a0 = 835 then σ.2 8 5 else if a0 = 928 then (fun (z8 : Int64) => z8) (m_X6_readConfigs σ 0) else if a0 = 930 then (fun (z10 : Int64) => z10) (m_X6_readConfigs σ 8) else if a0 = 2818 then (σ.1 8 6).toInt64 else (if a0 < 944 then 0 else (if (959 : Int32) < a0 then 0 else σ.2 5 (a0 - 944).toNatClampNeg))) = mm := hm
  refine lv_iload_n hx hb dX1_read_0 rfl (lv_at hl 1 rfl) ?_
  by_cases h1 : a0 = 768
  · have hm := (if_pos h1).symm.trans hm
    refine lv_lookup (off := 75) (tgt := 76) hx hb dX1_read_1 (by decide) (by rw [h1]; decide) (by decide) ?_
    refine lv_aload_n hx hb dX1_read_76 rfl (lv_at hl 0 rfl) ?_
    obtain ⟨z2, qz2⟩ : ∃ t : Int64, t = m_X1_mstatus σ := ⟨_, rfl⟩
    have hm : z2 = mm := by rw [qz2]; exact hm
    have hc : eb_M l yX1_mstatus (Cond.code yX1_mstatus cX1_mstatus 1 (some .long) :: wsL_law) 0 0 D 33 cy cL ad σ [.ref (ad 8)] (some (.long z2)) σ := by rw [qz2]; exact c_X1_mstatus l D cy ad σ 
    refine eb_callV (n := 0) (as := []) (rest := []) X hw hl.1 8 hc (by decide) ⟨rfl, rfl, rfl⟩ (eb_goodV wi_21_0 wi_21_1 wi_21_2 wi_2_3 wi_21_3) rfl (by decide +kernel) ⟨by decide, by decide⟩ rfl rfl (Nat.le_of_ble_eq_true rfl) dX1_read_77 ⟨by decide, by decide⟩ (st' := [.long z2]) rfl (fun H locs hw => ?_)
    subst hm
    exact eb_lret X hw rfl rfl rfl dX1_read_80
  · have hm := (if_neg h1).symm.trans hm
    by_cases h3 : a0 = 832
    · have hm := (if_pos h3).symm.trans hm
      refine lv_lookup (off := 80) (tgt := 81) hx hb dX1_read_1 (by decide) (by rw [h3]; decide) (by decide) ?_
      refine lv_aload_n hx hb dX1_read_81 rfl (lv_at hl 0 rfl) ?_
      refine eb_get (T := TX1) X hw 8 2 (by decide) ⟨rfl, rfl, rfl⟩ (by decide) (fun _ h => List.mem_cons_of_mem _ (inlX1 _ h)) (List.mem_cons_of_mem _ wi_8_17) (v := .long (σ.2 8 2)) rfl dX1_read_82 ?_
      subst hm
      exact eb_lret X hw rfl rfl rfl dX1_read_85
    · have hm := (if_neg h3).symm.trans hm
      by_cases h4 : a0 = 833
      · have hm := (if_pos h4).symm.trans hm
        refine lv_lookup (off := 85) (tgt := 86) hx hb dX1_read_1 (by decide) (by rw [h4]; decide) (by decide) ?_
        refine lv_aload_n hx hb dX1_read_86 rfl (lv_at hl 0 rfl) ?_
        refine eb_get (T := TX1) X hw 8 3 (by decide) ⟨rfl, rfl, rfl⟩ (by decide) (fun _ h => List.mem_cons_of_mem _ (inlX1 _ h)) (List.mem_cons_of_mem _ wi_8_18) (v := .long (σ.2 8 3)) rfl dX1_read_87 ?_
        subst hm
        exact eb_lret X hw rfl rfl rfl dX1_read_90
      · have hm := (if_neg h4).symm.trans hm
        by_cases h5 : a0 = 834
        · have hm := (if_pos h5).symm.trans hm
          refine lv_lookup (off := 90) (tgt := 91) hx hb dX1_read_1 (by decide) (by rw [h5]; decide) (by decide) ?_
          refine lv_aload_n hx hb dX1_read_91 rfl (lv_at hl 0 rfl) ?_
          refine eb_get (T := TX1) X hw 8 4 (by decide) ⟨rfl, rfl, rfl⟩ (by decide) (fun _ h => List.mem_cons_of_mem _ (inlX1 _ h)) (List.mem_cons_of_mem _ wi_8_19) (v := .long (σ.2 8 4)) rfl dX1_read_92 ?_
          subst hm
          exact eb_lret X hw rfl rfl rfl dX1_read_95
        · have hm := (if_neg h5).symm.trans hm
          by_cases h6 : a0 = 835
          · have hm := (if_pos h6).symm.trans hm
            refine lv_lookup (off := 95) (tgt := 96) hx hb dX1_read_1 (by decide) (by rw [h6]; decide) (by decide) ?_
            refine lv_aload_n hx hb dX1_read_96 rfl (lv_at hl 0 rfl) ?_
            refine eb_get (T := TX1) X hw 8 5 (by decide) ⟨rfl, rfl, rfl⟩ (by decide) (fun _ h => List.mem_cons_of_mem _ (inlX1 _ h)) (List.mem_cons_of_mem _ wi_8_20) (v := .long (σ.2 8 5)) rfl dX1_read_97 ?_
            subst hm
            exact eb_lret X hw rfl rfl rfl dX1_read_100
          · have hm := (if_neg h6).symm.trans hm
            by_cases h7 : a0 = 928
            · have hm := (if_pos h7).symm.trans hm
              refine lv_lookup (off := 100) (tgt := 101) hx hb dX1_read_1 (by decide) (by rw [h7]; decide) (by decide) ?_
              refine lv_aload_n hx hb dX1_read_101 rfl (lv_at hl 0 rfl) ?_
              refine eb_get (T := TX1) X hw 8 0 (by decide) ⟨rfl, rfl, rfl⟩ (by decide) (fun _ h => List.mem_cons_of_mem _ (inlX1 _ h)) (List.mem_cons_of_mem _ wi_3_12) (v := .ref (ad 3)) rfl dX1_read_102 ?_
              refine lv_iconst (v := 0) hx hb dX1_read_105 (by decide) ?_
              obtain ⟨z8, qz8⟩ : ∃ t : Int64, t = m_X6_readConfigs σ 0 := ⟨_, rfl⟩
              have hm : z8 = mm := by rw [qz8]; exact hm
              have hc : eb_M l yX6_readConfigs (Cond.code yX6_readConfigs cX6_readConfigs 5 (some .long) :: wsL_law) 1 21 D 33 cy cL ad σ [.ref (ad 3), .int 0] (some (.long z8)) σ := by rw [qz8]; exact c_X6_readConfigs l D cy ad σ 0
              refine eb_callV (n := 1) (as := [.int 0]) (rest := []) X hw hl.1 3 hc (by decide) ⟨rfl, rfl, rfl⟩ (eb_goodV wi_21_4 wi_21_5 wi_21_6 wi_1_23 wi_21_7) rfl (by decide +kernel) ⟨by decide, by decide⟩ rfl rfl (Nat.le_of_ble_eq_true rfl) dX1_read_106 ⟨by decide, by decide⟩ (st' := [.long z8]) rfl (fun H locs hw => ?_)
              subst hm
              exact eb_lret X hw rfl rfl rfl dX1_read_109
            · have hm := (if_neg h7).symm.trans hm
              by_cases h9 : a0 = 930
              · have hm := (if_pos h9).symm.trans hm
                refine lv_lookup (off := 109) (tgt := 110) hx hb dX1_read_1 (by decide) (by rw [h9]; decide) (by decide) ?_
                refine lv_aload_n hx hb dX1_read_110 rfl (lv_at hl 0 rfl) ?_
                refine eb_get (T := TX1) X hw 8 0 (by decide) ⟨rfl, rfl, rfl⟩ (by decide) (fun _ h => List.mem_cons_of_mem _ (inlX1 _ h)) (List.mem_cons_of_mem _ wi_3_12) (v := .ref (ad 3)) rfl dX1_read_111 ?_
                refine lv_bipush (v := 8) hx hb dX1_read_114 (by decide) ?_
                obtain ⟨z10, qz10⟩ : ∃ t : Int64, t = m_X6_readConfigs σ 8 := ⟨_, rfl⟩
                have hm : z10 = mm := by rw [qz10]; exact hm
                have hc : eb_M l yX6_readConfigs (Cond.code yX6_readConfigs cX6_readConfigs 5 (some .long) :: wsL_law) 1 21 D 33 cy cL ad σ [.ref (ad 3), .int 8] (some (.long z10)) σ := by rw [qz10]; exact c_X6_readConfigs l D cy ad σ 8
                refine eb_callV (n := 1) (as := [.int 8]) (rest := []) X hw hl.1 3 hc (by decide) ⟨rfl, rfl, rfl⟩ (eb_goodV wi_21_4 wi_21_5 wi_21_6 wi_1_23 wi_21_7) rfl (by decide +kernel) ⟨by decide, by decide⟩ rfl rfl (Nat.le_of_ble_eq_true rfl) dX1_read_116 ⟨by decide, by decide⟩ (st' := [.long z10]) rfl (fun H locs hw => ?_)
                subst hm
                exact eb_lret X hw rfl rfl rfl dX1_read_119
              · have hm := (if_neg h9).symm.trans hm
                by_cases h11 : a0 = 2818
                · have hm := (if_pos h11).symm.trans hm
                  refine lv_lookup (off := 119) (tgt := 120) hx hb dX1_read_1 (by decide) (by rw [h11]; decide) (by decide) ?_
                  refine lv_aload_n hx hb dX1_read_120 rfl (lv_at hl 0 rfl) ?_
                  refine eb_get (T := TX1) X hw 8 6 (by decide) ⟨rfl, rfl, rfl⟩ (by decide) (fun _ h => List.mem_cons_of_mem _ (inlX1 _ h)) (List.mem_cons_of_mem _ wi_8_21) (v := .int (σ.1 8 6)) rfl dX1_read_121 ?_
                  refine lv_i2l (v := (σ.1 8 6).toInt64) hx hb dX1_read_124 rfl ?_
                  subst hm
                  exact eb_lret X hw rfl rfl rfl dX1_read_125
                · have hm := (if_neg h11).symm.trans hm
                  refine lv_lookup (off := 125) (tgt := 126) hx hb dX1_read_1 (by decide) (by show Op.lookupswitch.offset [(768, 75), (832, 80), (833, 85), (834, 90), (835, 95), (928, 100), (930, 109), (2818, 119)] _ _ = _; rw [lv_osw h1 (by decide)]; rw [lv_osw h3 (by decide)]; rw [lv_osw h4 (by decide)]; rw [lv_osw h5 (by decide)]; rw [lv_osw h6 (by decide)]; rw [lv_osw h7 (by decide)]; rw [lv_osw h9 (by decide)]; rw [lv_osw h11 (by decide)]; rfl) (by decide) ?_
                  refine lv_iload_n hx hb dX1_read_126 rfl (lv_at hl 1 rfl) ?_
                  refine lv_sipush (v := 944) hx hb dX1_read_127 (by decide) ?_
                  refine lv_icmp_lt (tgt := 144) hx hb dX1_read_130 (by decide) (fun h12 => ?_) (fun h12 => ?_)
                  · have hm := (if_pos h12).symm.trans hm
                    refine lv_iconst (v := 0) hx hb dX1_read_144 (by decide) ?_
                    refine lv_istore_n (lv' := [(2, .int 0), (0, .ref (ad 8)), (1, .int a0)]) hx hb dX1_read_145 rfl hl (by decide) rfl (fun ls hl => ?_)
                    refine lv_iload_n hx hb dX1_read_146 rfl (lv_at hl 0 rfl) ?_
                    refine lv_if_eq (tgt := 166) hx hb dX1_read_147 (by decide) (fun _ => ?_) (fun hq => absurd (by decide) hq)
                    refine lv_lconst (v := 0) hx hb dX1_read_166 (by decide) ?_
                    subst hm
                    exact eb_lret X hw rfl rfl rfl dX1_read_167
                  · have hm := (if_neg h12).symm.trans hm
                    refine lv_iload_n hx hb dX1_read_133 rfl (lv_at hl 1 rfl) ?_
                    refine lv_sipush (v := 959) hx hb dX1_read_134 (by decide) ?_
                    refine lv_icmp_gt (tgt := 144) hx hb dX1_read_137 (by decide) (fun h13 => ?_) (fun h13 => ?_)
                    · have hm := (if_pos h13).symm.trans hm
                      refine lv_iconst (v := 0) hx hb dX1_read_144 (by decide) ?_
                      refine lv_istore_n (lv' := [(2, .int 0), (0, .ref (ad 8)), (1, .int a0)]) hx hb dX1_read_145 rfl hl (by decide) rfl (fun ls hl => ?_)
                      refine lv_iload_n hx hb dX1_read_146 rfl (lv_at hl 0 rfl) ?_
                      refine lv_if_eq (tgt := 166) hx hb dX1_read_147 (by decide) (fun _ => ?_) (fun hq => absurd (by decide) hq)
                      refine lv_lconst (v := 0) hx hb dX1_read_166 (by decide) ?_
                      subst hm
                      exact eb_lret X hw rfl rfl rfl dX1_read_167
                    · have hm := (if_neg h13).symm.trans hm
                      refine lv_iconst (v := 1) hx hb dX1_read_140 (by decide) ?_
                      refine lv_goto (tgt := 145) hx hb dX1_read_141 (by decide) ?_
                      refine lv_istore_n (lv' := [(2, .int 1), (0, .ref (ad 8)), (1, .int a0)]) hx hb dX1_read_145 rfl hl (by decide) rfl (fun ls hl => ?_)
                      refine lv_iload_n hx hb dX1_read_146 rfl (lv_at hl 0 rfl) ?_
                      refine lv_if_eq (tgt := 166) hx hb dX1_read_147 (by decide) (fun hq => absurd hq (by decide)) (fun _ => ?_)
                      refine lv_aload_n hx hb dX1_read_150 rfl (lv_at hl 1 rfl) ?_
                      refine eb_get (T := TX1) X hw 8 0 (by decide) ⟨rfl, rfl, rfl⟩ (by decide) (fun _ h => List.mem_cons_of_mem _ (inlX1 _ h)) (List.mem_cons_of_mem _ wi_3_12) (v := .ref (ad 3)) rfl dX1_read_151 ?_
                      refine eb_getN (T := TX6) X hw 3 1 (by decide) ⟨rfl, rfl, rfl⟩ (by decide) (fun _ h => List.mem_cons_of_mem _ (inlX6 _ h)) X.2.1.2.2.1 (v := .ref (ad 5)) rfl dX1_read_154 ?_
                      refine lv_iload_n hx hb dX1_read_157 rfl (lv_at hl 2 rfl) ?_
                      refine lv_sipush (v := 944) hx hb dX1_read_158 (by decide) ?_
                      refine lv_isub hx hb dX1_read_161 ?_
                      refine eb_lald (n := 16) X hw 5 (by decide) rfl rfl (eb_in_csr (eb_nlt h12) (eb_nlt h13)) dX1_read_162 ?_
                      refine lv_goto (tgt := 167) hx hb dX1_read_163 (by decide) ?_
                      subst hm
                      exact eb_lret X hw rfl rfl rfl dX1_read_167

set_option maxHeartbeats 4000000 in
set_option maxRecDepth 100000 in
theorem c_X1_write (l : Launch) (D : va_G) (cy : Nat → ClassId) (ad : Nat → Nat) (σ : eb_St) (a0 : Int32) (a1 : Int64)  : eb_M l yX1_write (Cond.code yX1_write cX1_write 4 none :: wsL_law) 2 52 D 33 cy cL ad σ [.ref (ad 8), .int a0, .long a1] (none) (m_X1_write σ a0 a1) := by
  refine eb_start (own := RX1) (by decide) rfl rfl (Nat.le_of_ble_eq_true rfl) ?_
  intro p e s m args below meth c A ls X hw hl
  have hl : lv_has ls 4 [(0, .ref (ad 8)), (1, .int a0), (2, .long a1)] := hl
  have hx := X.1.1
  have hb := X.1.2.1
  have hown := X.1.2.2.2.1
  have hts := X.1.2.2.2.2
  generalize hm : m_X1_write σ a0 a1 = mm
  have hm : (if a0 = 768 then (if ((eb_lushr a1 11) &&& 3) = 3 then eb_pI σ 8 1 3 else eb_pI σ 8 1 0) else if a0 = 832 then eb_pJ σ 8 2 a1 else if a0 = 833 then eb_pJ σ 8 3 (a1 &&& (-4)) else if a0 = 834 then eb_pJ σ 8 4 a1 else if a0 = 835 then eb_pJ σ 8 5 a1 else if a0 = 928 then σ else if a0 = 930 then (fun (z9 : eb_St) => z9) (m_X6_writeConfigs σ a1) else (fun (z10 : eb_St) => z10) (m_X6_writeAddress σ (a0 - 944) a1)) = mm := hm
  refine lv_iload_n hx hb dX1_write_0 rfl (lv_at hl 1 rfl) ?_
  by_cases h1 : a0 = 768
  · have hm := (if_pos h1).symm.trans hm
    refine lv_lookup (off := 67) (tgt := 68) hx hb dX1_write_1 (by decide) (by rw [h1]; decide) (by decide) ?_
    refine lv_aload_n hx hb dX1_write_68 rfl (lv_at hl 0 rfl) ?_
    refine lv_lload_n hx hb dX1_write_69 rfl (lv_at hl 2 rfl) ?_
    refine lv_bipush (v := 11) hx hb dX1_write_70 (by decide) ?_
    refine lv_lushr (v := eb_lushr a1 11) hx hb dX1_write_72 rfl ?_
    refine lv_ldc2 hx hb hown (hts _ (List.mem_cons_of_mem _ wi_21_20)) dX1_write_73 ?_
    refine lv_land hx hb dX1_write_76 ?_
    refine lv_ldc2 hx hb hown (hts _ (List.mem_cons_of_mem _ wi_21_20)) dX1_write_77 ?_
    refine eb_lif_ne (tgt := 88) hx hb dX1_write_80 dX1_write_81 (by decide) (fun h2 => ?_) (fun h2 => ?_)
    · have hm := (if_neg h2).symm.trans hm
      refine lv_iconst (v := 0) hx hb dX1_write_88 (by decide) ?_
      refine eb_putI (T := TX1) X hw 8 1 (by decide) ⟨rfl, rfl, rfl⟩ (by decide) rfl (fun _ h => List.mem_cons_of_mem _ (inlX1 _ h)) (List.mem_cons_of_mem _ wi_8_16) tyX1 tyX1_ok nmX1 rfl rfl rfl dX1_write_89 (fun H locs hw => ?_)
      refine lv_goto (tgt := 158) hx hb dX1_write_92 (by decide) ?_
      subst hm
      exact eb_vret X hw rfl rfl dX1_write_158
    · have hm := (if_pos h2).symm.trans hm
      refine lv_iconst (v := 3) hx hb dX1_write_84 (by decide) ?_
      refine lv_goto (tgt := 89) hx hb dX1_write_85 (by decide) ?_
      refine eb_putI (T := TX1) X hw 8 1 (by decide) ⟨rfl, rfl, rfl⟩ (by decide) rfl (fun _ h => List.mem_cons_of_mem _ (inlX1 _ h)) (List.mem_cons_of_mem _ wi_8_16) tyX1 tyX1_ok nmX1 rfl rfl rfl dX1_write_89 (fun H locs hw => ?_)
      refine lv_goto (tgt := 158) hx hb dX1_write_92 (by decide) ?_
      subst hm
      exact eb_vret X hw rfl rfl dX1_write_158
  · have hm := (if_neg h1).symm.trans hm
    by_cases h3 : a0 = 832
    · have hm := (if_pos h3).symm.trans hm
      refine lv_lookup (off := 94) (tgt := 95) hx hb dX1_write_1 (by decide) (by rw [h3]; decide) (by decide) ?_
      refine lv_aload_n hx hb dX1_write_95 rfl (lv_at hl 0 rfl) ?_
      refine lv_lload_n hx hb dX1_write_96 rfl (lv_at hl 2 rfl) ?_
      refine eb_putJ (T := TX1) X hw 8 2 (by decide) ⟨rfl, rfl, rfl⟩ (by decide) rfl (fun _ h => List.mem_cons_of_mem _ (inlX1 _ h)) (List.mem_cons_of_mem _ wi_8_17) tyX1 tyX1_ok nmX1 rfl rfl rfl dX1_write_97 (fun H locs hw => ?_)
      refine lv_goto (tgt := 158) hx hb dX1_write_100 (by decide) ?_
      subst hm
      exact eb_vret X hw rfl rfl dX1_write_158
    · have hm := (if_neg h3).symm.trans hm
      by_cases h4 : a0 = 833
      · have hm := (if_pos h4).symm.trans hm
        refine lv_lookup (off := 102) (tgt := 103) hx hb dX1_write_1 (by decide) (by rw [h4]; decide) (by decide) ?_
        refine lv_aload_n hx hb dX1_write_103 rfl (lv_at hl 0 rfl) ?_
        refine lv_lload_n hx hb dX1_write_104 rfl (lv_at hl 2 rfl) ?_
        refine lv_ldc2 hx hb hown (hts _ (List.mem_cons_of_mem _ wi_21_21)) dX1_write_105 ?_
        refine lv_land hx hb dX1_write_108 ?_
        refine eb_putJ (T := TX1) X hw 8 3 (by decide) ⟨rfl, rfl, rfl⟩ (by decide) rfl (fun _ h => List.mem_cons_of_mem _ (inlX1 _ h)) (List.mem_cons_of_mem _ wi_8_18) tyX1 tyX1_ok nmX1 rfl rfl rfl dX1_write_109 (fun H locs hw => ?_)
        refine lv_goto (tgt := 158) hx hb dX1_write_112 (by decide) ?_
        subst hm
        exact eb_vret X hw rfl rfl dX1_write_158
      · have hm := (if_neg h4).symm.trans hm
        by_cases h5 : a0 = 834
        · have hm := (if_pos h5).symm.trans hm
          refine lv_lookup (off := 114) (tgt := 115) hx hb dX1_write_1 (by decide) (by rw [h5]; decide) (by decide) ?_
          refine lv_aload_n hx hb dX1_write_115 rfl (lv_at hl 0 rfl) ?_
          refine lv_lload_n hx hb dX1_write_116 rfl (lv_at hl 2 rfl) ?_
          refine eb_putJ (T := TX1) X hw 8 4 (by decide) ⟨rfl, rfl, rfl⟩ (by decide) rfl (fun _ h => List.mem_cons_of_mem _ (inlX1 _ h)) (List.mem_cons_of_mem _ wi_8_19) tyX1 tyX1_ok nmX1 rfl rfl rfl dX1_write_117 (fun H locs hw => ?_)
          refine lv_goto (tgt := 158) hx hb dX1_write_120 (by decide) ?_
          subst hm
          exact eb_vret X hw rfl rfl dX1_write_158
        · have hm := (if_neg h5).symm.trans hm
          by_cases h6 : a0 = 835
          · have hm := (if_pos h6).symm.trans hm
            refine lv_lookup (off := 122) (tgt := 123) hx hb dX1_write_1 (by decide) (by rw [h6]; decide) (by decide) ?_
            refine lv_aload_n hx hb dX1_write_123 rfl (lv_at hl 0 rfl) ?_
            refine lv_lload_n hx hb dX1_write_124 rfl (lv_at hl 2 rfl) ?_
            refine eb_putJ (T := TX1) X hw 8 5 (by decide) ⟨rfl, rfl, rfl⟩ (by decide) rfl (fun _ h => List.mem_cons_of_mem _ (inlX1 _ h)) (List.mem_cons_of_mem _ wi_8_20) tyX1 tyX1_ok nmX1 rfl rfl rfl dX1_write_125 (fun H locs hw => ?_)
            refine lv_goto (tgt := 158) hx hb dX1_write_128 (by decide) ?_
            subst hm
            exact eb_vret X hw rfl rfl dX1_write_158
          · have hm := (if_neg h6).symm.trans hm
            by_cases h7 : a0 = 928
            · have hm := (if_pos h7).symm.trans hm
              refine lv_lookup (off := 130) (tgt := 131) hx hb dX1_write_1 (by decide) (by rw [h7]; decide) (by decide) ?_
              refine lv_goto (tgt := 158) hx hb dX1_write_131 (by decide) ?_
              subst hm
              exact eb_vret X hw rfl rfl dX1_write_158
            · have hm := (if_neg h7).symm.trans hm
              by_cases h8 : a0 = 930
              · have hm := (if_pos h8).symm.trans hm
                refine lv_lookup (off := 133) (tgt := 134) hx hb dX1_write_1 (by decide) (by rw [h8]; decide) (by decide) ?_
                refine lv_aload_n hx hb dX1_write_134 rfl (lv_at hl 0 rfl) ?_
                refine eb_get (T := TX1) X hw 8 0 (by decide) ⟨rfl, rfl, rfl⟩ (by decide) (fun _ h => List.mem_cons_of_mem _ (inlX1 _ h)) (List.mem_cons_of_mem _ wi_3_12) (v := .ref (ad 3)) rfl dX1_write_135 ?_
                refine lv_lload_n hx hb dX1_write_138 rfl (lv_at hl 2 rfl) ?_
                obtain ⟨z9, qz9⟩ : ∃ t : eb_St, t = m_X6_writeConfigs σ a1 := ⟨_, rfl⟩
                have hm : z9 = mm := by rw [qz9]; exact hm
                have hc : eb_M l yX6_writeConfigs (Cond.code yX6_writeConfigs cX6_writeConfigs 4 none :: wsL_law) 1 29 D 33 cy cL ad σ [.ref (ad 3), .long a1] (none) z9 := by rw [qz9]; exact c_X6_writeConfigs l D cy ad σ a1
                refine eb_callV (n := 1) (as := [.long a1]) (rest := []) X hw hl.1 3 hc (by decide) ⟨rfl, rfl, rfl⟩ (eb_goodV wi_21_22 wi_21_23 wi_22_0 wi_1_23 wi_22_1) rfl (by decide +kernel) ⟨by decide, by decide⟩ rfl rfl (Nat.le_of_ble_eq_true rfl) dX1_write_139 ⟨by decide, by decide⟩ (st' := []) rfl (fun H locs hw => ?_)
                refine lv_goto (tgt := 158) hx hb dX1_write_142 (by decide) ?_
                subst hm
                exact eb_vret X hw rfl rfl dX1_write_158
              · have hm := (if_neg h8).symm.trans hm
                refine lv_lookup (off := 144) (tgt := 145) hx hb dX1_write_1 (by decide) (by show Op.lookupswitch.offset [(768, 67), (832, 94), (833, 102), (834, 114), (835, 122), (928, 130), (930, 133)] _ _ = _; rw [lv_osw h1 (by decide)]; rw [lv_osw h3 (by decide)]; rw [lv_osw h4 (by decide)]; rw [lv_osw h5 (by decide)]; rw [lv_osw h6 (by decide)]; rw [lv_osw h7 (by decide)]; rw [lv_osw h8 (by decide)]; rfl) (by decide) ?_
                refine lv_aload_n hx hb dX1_write_145 rfl (lv_at hl 0 rfl) ?_
                refine eb_get (T := TX1) X hw 8 0 (by decide) ⟨rfl, rfl, rfl⟩ (by decide) (fun _ h => List.mem_cons_of_mem _ (inlX1 _ h)) (List.mem_cons_of_mem _ wi_3_12) (v := .ref (ad 3)) rfl dX1_write_146 ?_
                refine lv_iload_n hx hb dX1_write_149 rfl (lv_at hl 1 rfl) ?_
                refine lv_sipush (v := 944) hx hb dX1_write_150 (by decide) ?_
                refine lv_isub hx hb dX1_write_153 ?_
                refine lv_lload_n hx hb dX1_write_154 rfl (lv_at hl 2 rfl) ?_
                obtain ⟨z10, qz10⟩ : ∃ t : eb_St, t = m_X6_writeAddress σ (a0 - 944) a1 := ⟨_, rfl⟩
                have hm : z10 = mm := by rw [qz10]; exact hm
                have hc : eb_M l yX6_writeAddress (Cond.code yX6_writeAddress cX6_writeAddress 4 none :: wsL_law) 1 29 D 33 cy cL ad σ [.ref (ad 3), .int (a0 - 944), .long a1] (none) z10 := by rw [qz10]; exact c_X6_writeAddress l D cy ad σ (a0 - 944) a1
                refine eb_callV (n := 2) (as := [.int (a0 - 944), .long a1]) (rest := []) X hw hl.1 3 hc (by decide) ⟨rfl, rfl, rfl⟩ (eb_goodV wi_22_5 wi_22_6 wi_22_7 wi_1_23 wi_22_8) rfl (by decide +kernel) ⟨by decide, by decide⟩ rfl rfl (Nat.le_of_ble_eq_true rfl) dX1_write_155 ⟨by decide, by decide⟩ (st' := []) rfl (fun H locs hw => ?_)
                subst hm
                exact eb_vret X hw rfl rfl dX1_write_158

set_option maxHeartbeats 4000000 in
set_option maxRecDepth 100000 in
theorem c_X8_meet (l : Launch) (D : va_G) (cy : Nat → ClassId) (ad : Nat → Nat) (σ : eb_St) (a0 : Int64) (a1 : Int64) (a2 : Int64) (a3 : Int64)  : eb_M l yX8_meet (Cond.code yX8_meet cX8_meet 8 (some .boolean) :: wsL_law) 0 0 D 33 cy cL ad σ [.long a0, .long a1, .long a2, .long a3] (some (.int (eb_b (m_X8_meet a0 a1 a2 a3)))) σ := by
  refine eb_start (own := RX8) (by decide) rfl rfl (Nat.le_of_ble_eq_true rfl) ?_
  intro p e s m args below meth c A ls X hw hl
  have hl : lv_has ls 8 [(0, .long a0), (2, .long a1), (4, .long a2), (6, .long a3)] := hl
  have hx := X.1.1
  have hb := X.1.2.1
  have hown := X.1.2.2.2.1
  have hts := X.1.2.2.2.2
  generalize hm : m_X8_meet a0 a1 a2 a3 = mm
  have hm : (if (a2 + a3) ≤ a0 then false else (if (a0 + a1) ≤ a2 then false else true)) = mm := hm
  refine lv_lload_n hx hb dX8_meet_0 rfl (lv_at hl 0 rfl) ?_
  refine lv_lload hx hb dX8_meet_1 (lv_at hl 2 rfl) ?_
  refine lv_lload hx hb dX8_meet_3 (lv_at hl 3 rfl) ?_
  refine lv_ladd hx hb dX8_meet_5 ?_
  refine eb_lif_ge (tgt := 23) hx hb dX8_meet_6 dX8_meet_7 (by decide) (fun h1 => ?_) (fun h1 => ?_)
  · have hm := (if_pos h1).symm.trans hm
    refine lv_iconst (v := 0) hx hb dX8_meet_23 (by decide) ?_
    subst hm
    exact eb_zret X hw rfl rfl rfl rfl dX8_meet_24
  · have hm := (if_neg h1).symm.trans hm
    refine lv_lload hx hb dX8_meet_10 (lv_at hl 2 rfl) ?_
    refine lv_lload_n hx hb dX8_meet_12 rfl (lv_at hl 0 rfl) ?_
    refine lv_lload_n hx hb dX8_meet_13 rfl (lv_at hl 1 rfl) ?_
    refine lv_ladd hx hb dX8_meet_14 ?_
    refine eb_lif_ge (tgt := 23) hx hb dX8_meet_15 dX8_meet_16 (by decide) (fun h2 => ?_) (fun h2 => ?_)
    · have hm := (if_pos h2).symm.trans hm
      refine lv_iconst (v := 0) hx hb dX8_meet_23 (by decide) ?_
      subst hm
      exact eb_zret X hw rfl rfl rfl rfl dX8_meet_24
    · have hm := (if_neg h2).symm.trans hm
      refine lv_iconst (v := 1) hx hb dX8_meet_19 (by decide) ?_
      refine lv_goto (tgt := 24) hx hb dX8_meet_20 (by decide) ?_
      subst hm
      exact eb_zret X hw rfl rfl rfl rfl dX8_meet_24

set_option maxHeartbeats 4000000 in
set_option maxRecDepth 100000 in
theorem c_X8_take (l : Launch) (D : va_G) (cy : Nat → ClassId) (ad : Nat → Nat) (σ : eb_St) (a0 : Nat) (ba0 : a0 < 7) : eb_M l yX8_take (Cond.code yX8_take cX8_take 2 none :: wsL_law) 1 21 D 33 cy cL ad σ [.ref (ad 11), .ref (ad (19 + a0))] (none) (m_X8_take σ a0) := by
  refine eb_start (own := RX8) (by decide) rfl rfl (Nat.le_of_ble_eq_true rfl) ?_
  intro p e s m args below meth c A ls X hw hl
  have hl : lv_has ls 2 [(0, .ref (ad 11)), (1, .ref (ad (19 + a0)))] := hl
  have hx := X.1.1
  have hb := X.1.2.1
  have hown := X.1.2.2.2.1
  have hts := X.1.2.2.2.2
  generalize hm : m_X8_take σ a0 = mm
  have hm : (fun (z1 : Int64) => (fun (z2 : Int64) => (fun (z3 : Int64) => (fun (z4 : Int64) => (fun (z5 : Int64) => (fun (z6 : Int64) => (fun (z7 : Int64) => eb_pJ (eb_pJ (eb_pJ (eb_pJ (eb_pJ (eb_pJ (eb_pJ σ 11 0 z1) 11 1 z2) 11 2 z3) 11 3 z4) 11 4 z5) 11 5 z6) 11 6 z7) (m_X7_get (eb_pJ (eb_pJ (eb_pJ (eb_pJ (eb_pJ (eb_pJ σ 11 0 z1) 11 1 z2) 11 2 z3) 11 3 z4) 11 4 z5) 11 5 z6) a0 16)) (m_X7_get (eb_pJ (eb_pJ (eb_pJ (eb_pJ (eb_pJ σ 11 0 z1) 11 1 z2) 11 2 z3) 11 3 z4) 11 4 z5) a0 15)) (m_X7_get (eb_pJ (eb_pJ (eb_pJ (eb_pJ σ 11 0 z1) 11 1 z2) 11 2 z3) 11 3 z4) a0 14)) (m_X7_get (eb_pJ (eb_pJ (eb_pJ σ 11 0 z1) 11 1 z2) 11 2 z3) a0 13)) (m_X7_get (eb_pJ (eb_pJ σ 11 0 z1) 11 1 z2) a0 12)) (m_X7_get (eb_pJ σ 11 0 z1) a0 11)) (m_X7_get σ a0 10) = mm := hm
  refine lv_aload_n hx hb dX8_take_0 rfl (lv_at hl 0 rfl) ?_
  refine lv_aload_n hx hb dX8_take_1 rfl (lv_at hl 1 rfl) ?_
  refine lv_bipush (v := 10) hx hb dX8_take_2 (by decide) ?_
  obtain ⟨z1, qz1⟩ : ∃ t : Int64, t = m_X7_get σ a0 10 := ⟨_, rfl⟩
  have hm : (fun (z2 : Int64) => (fun (z3 : Int64) => (fun (z4 : Int64) => (fun (z5 : Int64) => (fun (z6 : Int64) => (fun (z7 : Int64) => eb_pJ (eb_pJ (eb_pJ (eb_pJ (eb_pJ (eb_pJ (eb_pJ σ 11 0 z1) 11 1 z2) 11 2 z3) 11 3 z4) 11 4 z5) 11 5 z6) 11 6 z7) (m_X7_get (eb_pJ (eb_pJ (eb_pJ (eb_pJ (eb_pJ (eb_pJ σ 11 0 z1) 11 1 z2) 11 2 z3) 11 3 z4) 11 4 z5) 11 5 z6) a0 16)) (m_X7_get (eb_pJ (eb_pJ (eb_pJ (eb_pJ (eb_pJ σ 11 0 z1) 11 1 z2) 11 2 z3) 11 3 z4) 11 4 z5) a0 15)) (m_X7_get (eb_pJ (eb_pJ (eb_pJ (eb_pJ σ 11 0 z1) 11 1 z2) 11 2 z3) 11 3 z4) a0 14)) (m_X7_get (eb_pJ (eb_pJ (eb_pJ σ 11 0 z1) 11 1 z2) 11 2 z3) a0 13)) (m_X7_get (eb_pJ (eb_pJ σ 11 0 z1) 11 1 z2) a0 12)) (m_X7_get (eb_pJ σ 11 0 z1) a0 11) = mm := by rw [qz1]; exact hm
  have hc : eb_M l yX7_get (Cond.code yX7_get cX7_get 2 (some .long) :: wsL_law) 0 0 D 33 cy cL ad σ [.ref (ad (19 + a0)), .int 10] (some (.long z1)) σ := by rw [qz1]; exact c_X7_get l D cy ad σ a0 10 (by omega)
  refine eb_callV (n := 1) (as := [.int 10]) (rest := [.ref (ad 11)]) X hw hl.1 (19 + a0) hc (by omega) (cR_i (by omega)) (eb_goodV wi_24_16 wi_16_5 wi_16_6 wi_2_7 wi_16_7) rfl (by decide +kernel) ⟨by decide, by decide⟩ rfl rfl (Nat.le_of_ble_eq_true rfl) dX8_take_4 ⟨by decide, by decide⟩ (st' := [.long z1, .ref (ad 11)]) rfl (fun H locs hw => ?_)
  refine eb_putJ (T := TX8) X hw 11 0 (by decide) ⟨rfl, rfl, rfl⟩ (by decide) rfl (fun _ h => List.mem_cons_of_mem _ (inlX8 _ h)) (List.mem_cons_of_mem _ wi_24_9) tyX8 tyX8_ok nmX8 rfl rfl rfl dX8_take_7 (fun H locs hw => ?_)
  refine lv_aload_n hx hb dX8_take_10 rfl (lv_at hl 0 rfl) ?_
  refine lv_aload_n hx hb dX8_take_11 rfl (lv_at hl 1 rfl) ?_
  refine lv_bipush (v := 11) hx hb dX8_take_12 (by decide) ?_
  obtain ⟨z2, qz2⟩ : ∃ t : Int64, t = m_X7_get (eb_pJ σ 11 0 z1) a0 11 := ⟨_, rfl⟩
  have hm : (fun (z3 : Int64) => (fun (z4 : Int64) => (fun (z5 : Int64) => (fun (z6 : Int64) => (fun (z7 : Int64) => eb_pJ (eb_pJ (eb_pJ (eb_pJ (eb_pJ (eb_pJ (eb_pJ σ 11 0 z1) 11 1 z2) 11 2 z3) 11 3 z4) 11 4 z5) 11 5 z6) 11 6 z7) (m_X7_get (eb_pJ (eb_pJ (eb_pJ (eb_pJ (eb_pJ (eb_pJ σ 11 0 z1) 11 1 z2) 11 2 z3) 11 3 z4) 11 4 z5) 11 5 z6) a0 16)) (m_X7_get (eb_pJ (eb_pJ (eb_pJ (eb_pJ (eb_pJ σ 11 0 z1) 11 1 z2) 11 2 z3) 11 3 z4) 11 4 z5) a0 15)) (m_X7_get (eb_pJ (eb_pJ (eb_pJ (eb_pJ σ 11 0 z1) 11 1 z2) 11 2 z3) 11 3 z4) a0 14)) (m_X7_get (eb_pJ (eb_pJ (eb_pJ σ 11 0 z1) 11 1 z2) 11 2 z3) a0 13)) (m_X7_get (eb_pJ (eb_pJ σ 11 0 z1) 11 1 z2) a0 12) = mm := by rw [qz2]; exact hm
  have hc : eb_M l yX7_get (Cond.code yX7_get cX7_get 2 (some .long) :: wsL_law) 0 0 D 33 cy cL ad (eb_pJ σ 11 0 z1) [.ref (ad (19 + a0)), .int 11] (some (.long z2)) (eb_pJ σ 11 0 z1) := by rw [qz2]; exact c_X7_get l D cy ad (eb_pJ σ 11 0 z1) a0 11 (by omega)
  refine eb_callV (n := 1) (as := [.int 11]) (rest := [.ref (ad 11)]) X hw hl.1 (19 + a0) hc (by omega) (cR_i (by omega)) (eb_goodV wi_24_16 wi_16_5 wi_16_6 wi_2_7 wi_16_7) rfl (by decide +kernel) ⟨by decide, by decide⟩ rfl rfl (Nat.le_of_ble_eq_true rfl) dX8_take_14 ⟨by decide, by decide⟩ (st' := [.long z2, .ref (ad 11)]) rfl (fun H locs hw => ?_)
  refine eb_putJ (T := TX8) X hw 11 1 (by decide) ⟨rfl, rfl, rfl⟩ (by decide) rfl (fun _ h => List.mem_cons_of_mem _ (inlX8 _ h)) (List.mem_cons_of_mem _ wi_24_10) tyX8 tyX8_ok nmX8 rfl rfl rfl dX8_take_17 (fun H locs hw => ?_)
  refine lv_aload_n hx hb dX8_take_20 rfl (lv_at hl 0 rfl) ?_
  refine lv_aload_n hx hb dX8_take_21 rfl (lv_at hl 1 rfl) ?_
  refine lv_bipush (v := 12) hx hb dX8_take_22 (by decide) ?_
  obtain ⟨z3, qz3⟩ : ∃ t : Int64, t = m_X7_get (eb_pJ (eb_pJ σ 11 0 z1) 11 1 z2) a0 12 := ⟨_, rfl⟩
  have hm : (fun (z4 : Int64) => (fun (z5 : Int64) => (fun (z6 : Int64) => (fun (z7 : Int64) => eb_pJ (eb_pJ (eb_pJ (eb_pJ (eb_pJ (eb_pJ (eb_pJ σ 11 0 z1) 11 1 z2) 11 2 z3) 11 3 z4) 11 4 z5) 11 5 z6) 11 6 z7) (m_X7_get (eb_pJ (eb_pJ (eb_pJ (eb_pJ (eb_pJ (eb_pJ σ 11 0 z1) 11 1 z2) 11 2 z3) 11 3 z4) 11 4 z5) 11 5 z6) a0 16)) (m_X7_get (eb_pJ (eb_pJ (eb_pJ (eb_pJ (eb_pJ σ 11 0 z1) 11 1 z2) 11 2 z3) 11 3 z4) 11 4 z5) a0 15)) (m_X7_get (eb_pJ (eb_pJ (eb_pJ (eb_pJ σ 11 0 z1) 11 1 z2) 11 2 z3) 11 3 z4) a0 14)) (m_X7_get (eb_pJ (eb_pJ (eb_pJ σ 11 0 z1) 11 1 z2) 11 2 z3) a0 13) = mm := by rw [qz3]; exact hm
  have hc : eb_M l yX7_get (Cond.code yX7_get cX7_get 2 (some .long) :: wsL_law) 0 0 D 33 cy cL ad (eb_pJ (eb_pJ σ 11 0 z1) 11 1 z2) [.ref (ad (19 + a0)), .int 12] (some (.long z3)) (eb_pJ (eb_pJ σ 11 0 z1) 11 1 z2) := by rw [qz3]; exact c_X7_get l D cy ad (eb_pJ (eb_pJ σ 11 0 z1) 11 1 z2) a0 12 (by omega)
  refine eb_callV (n := 1) (as := [.int 12]) (rest := [.ref (ad 11)]) X hw hl.1 (19 + a0) hc (by omega) (cR_i (by omega)) (eb_goodV wi_24_16 wi_16_5 wi_16_6 wi_2_7 wi_16_7) rfl (by decide +kernel) ⟨by decide, by decide⟩ rfl rfl (Nat.le_of_ble_eq_true rfl) dX8_take_24 ⟨by decide, by decide⟩ (st' := [.long z3, .ref (ad 11)]) rfl (fun H locs hw => ?_)
  refine eb_putJ (T := TX8) X hw 11 2 (by decide) ⟨rfl, rfl, rfl⟩ (by decide) rfl (fun _ h => List.mem_cons_of_mem _ (inlX8 _ h)) (List.mem_cons_of_mem _ wi_24_11) tyX8 tyX8_ok nmX8 rfl rfl rfl dX8_take_27 (fun H locs hw => ?_)
  refine lv_aload_n hx hb dX8_take_30 rfl (lv_at hl 0 rfl) ?_
  refine lv_aload_n hx hb dX8_take_31 rfl (lv_at hl 1 rfl) ?_
  refine lv_bipush (v := 13) hx hb dX8_take_32 (by decide) ?_
  obtain ⟨z4, qz4⟩ : ∃ t : Int64, t = m_X7_get (eb_pJ (eb_pJ (eb_pJ σ 11 0 z1) 11 1 z2) 11 2 z3) a0 13 := ⟨_, rfl⟩
  have hm : (fun (z5 : Int64) => (fun (z6 : Int64) => (fun (z7 : Int64) => eb_pJ (eb_pJ (eb_pJ (eb_pJ (eb_pJ (eb_pJ (eb_pJ σ 11 0 z1) 11 1 z2) 11 2 z3) 11 3 z4) 11 4 z5) 11 5 z6) 11 6 z7) (m_X7_get (eb_pJ (eb_pJ (eb_pJ (eb_pJ (eb_pJ (eb_pJ σ 11 0 z1) 11 1 z2) 11 2 z3) 11 3 z4) 11 4 z5) 11 5 z6) a0 16)) (m_X7_get (eb_pJ (eb_pJ (eb_pJ (eb_pJ (eb_pJ σ 11 0 z1) 11 1 z2) 11 2 z3) 11 3 z4) 11 4 z5) a0 15)) (m_X7_get (eb_pJ (eb_pJ (eb_pJ (eb_pJ σ 11 0 z1) 11 1 z2) 11 2 z3) 11 3 z4) a0 14) = mm := by rw [qz4]; exact hm
  have hc : eb_M l yX7_get (Cond.code yX7_get cX7_get 2 (some .long) :: wsL_law) 0 0 D 33 cy cL ad (eb_pJ (eb_pJ (eb_pJ σ 11 0 z1) 11 1 z2) 11 2 z3) [.ref (ad (19 + a0)), .int 13] (some (.long z4)) (eb_pJ (eb_pJ (eb_pJ σ 11 0 z1) 11 1 z2) 11 2 z3) := by rw [qz4]; exact c_X7_get l D cy ad (eb_pJ (eb_pJ (eb_pJ σ 11 0 z1) 11 1 z2) 11 2 z3) a0 13 (by omega)
  refine eb_callV (n := 1) (as := [.int 13]) (rest := [.ref (ad 11)]) X hw hl.1 (19 + a0) hc (by omega) (cR_i (by omega)) (eb_goodV wi_24_16 wi_16_5 wi_16_6 wi_2_7 wi_16_7) rfl (by decide +kernel) ⟨by decide, by decide⟩ rfl rfl (Nat.le_of_ble_eq_true rfl) dX8_take_34 ⟨by decide, by decide⟩ (st' := [.long z4, .ref (ad 11)]) rfl (fun H locs hw => ?_)
  refine eb_putJ (T := TX8) X hw 11 3 (by decide) ⟨rfl, rfl, rfl⟩ (by decide) rfl (fun _ h => List.mem_cons_of_mem _ (inlX8 _ h)) (List.mem_cons_of_mem _ wi_24_12) tyX8 tyX8_ok nmX8 rfl rfl rfl dX8_take_37 (fun H locs hw => ?_)
  refine lv_aload_n hx hb dX8_take_40 rfl (lv_at hl 0 rfl) ?_
  refine lv_aload_n hx hb dX8_take_41 rfl (lv_at hl 1 rfl) ?_
  refine lv_bipush (v := 14) hx hb dX8_take_42 (by decide) ?_
  obtain ⟨z5, qz5⟩ : ∃ t : Int64, t = m_X7_get (eb_pJ (eb_pJ (eb_pJ (eb_pJ σ 11 0 z1) 11 1 z2) 11 2 z3) 11 3 z4) a0 14 := ⟨_, rfl⟩
  have hm : (fun (z6 : Int64) => (fun (z7 : Int64) => eb_pJ (eb_pJ (eb_pJ (eb_pJ (eb_pJ (eb_pJ (eb_pJ σ 11 0 z1) 11 1 z2) 11 2 z3) 11 3 z4) 11 4 z5) 11 5 z6) 11 6 z7) (m_X7_get (eb_pJ (eb_pJ (eb_pJ (eb_pJ (eb_pJ (eb_pJ σ 11 0 z1) 11 1 z2) 11 2 z3) 11 3 z4) 11 4 z5) 11 5 z6) a0 16)) (m_X7_get (eb_pJ (eb_pJ (eb_pJ (eb_pJ (eb_pJ σ 11 0 z1) 11 1 z2) 11 2 z3) 11 3 z4) 11 4 z5) a0 15) = mm := by rw [qz5]; exact hm
  have hc : eb_M l yX7_get (Cond.code yX7_get cX7_get 2 (some .long) :: wsL_law) 0 0 D 33 cy cL ad (eb_pJ (eb_pJ (eb_pJ (eb_pJ σ 11 0 z1) 11 1 z2) 11 2 z3) 11 3 z4) [.ref (ad (19 + a0)), .int 14] (some (.long z5)) (eb_pJ (eb_pJ (eb_pJ (eb_pJ σ 11 0 z1) 11 1 z2) 11 2 z3) 11 3 z4) := by rw [qz5]; exact c_X7_get l D cy ad (eb_pJ (eb_pJ (eb_pJ (eb_pJ σ 11 0 z1) 11 1 z2) 11 2 z3) 11 3 z4) a0 14 (by omega)
  refine eb_callV (n := 1) (as := [.int 14]) (rest := [.ref (ad 11)]) X hw hl.1 (19 + a0) hc (by omega) (cR_i (by omega)) (eb_goodV wi_24_16 wi_16_5 wi_16_6 wi_2_7 wi_16_7) rfl (by decide +kernel) ⟨by decide, by decide⟩ rfl rfl (Nat.le_of_ble_eq_true rfl) dX8_take_44 ⟨by decide, by decide⟩ (st' := [.long z5, .ref (ad 11)]) rfl (fun H locs hw => ?_)
  refine eb_putJ (T := TX8) X hw 11 4 (by decide) ⟨rfl, rfl, rfl⟩ (by decide) rfl (fun _ h => List.mem_cons_of_mem _ (inlX8 _ h)) (List.mem_cons_of_mem _ wi_24_13) tyX8 tyX8_ok nmX8 rfl rfl rfl dX8_take_47 (fun H locs hw => ?_)
  refine lv_aload_n hx hb dX8_take_50 rfl (lv_at hl 0 rfl) ?_
  refine lv_aload_n hx hb dX8_take_51 rfl (lv_at hl 1 rfl) ?_
  refine lv_bipush (v := 15) hx hb dX8_take_52 (by decide) ?_
  obtain ⟨z6, qz6⟩ : ∃ t : Int64, t = m_X7_get (eb_pJ (eb_pJ (eb_pJ (eb_pJ (eb_pJ σ 11 0 z1) 11 1 z2) 11 2 z3) 11 3 z4) 11 4 z5) a0 15 := ⟨_, rfl⟩
  have hm : (fun (z7 : Int64) => eb_pJ (eb_pJ (eb_pJ (eb_pJ (eb_pJ (eb_pJ (eb_pJ σ 11 0 z1) 11 1 z2) 11 2 z3) 11 3 z4) 11 4 z5) 11 5 z6) 11 6 z7) (m_X7_get (eb_pJ (eb_pJ (eb_pJ (eb_pJ (eb_pJ (eb_pJ σ 11 0 z1) 11 1 z2) 11 2 z3) 11 3 z4) 11 4 z5) 11 5 z6) a0 16) = mm := by rw [qz6]; exact hm
  have hc : eb_M l yX7_get (Cond.code yX7_get cX7_get 2 (some .long) :: wsL_law) 0 0 D 33 cy cL ad (eb_pJ (eb_pJ (eb_pJ (eb_pJ (eb_pJ σ 11 0 z1) 11 1 z2) 11 2 z3) 11 3 z4) 11 4 z5) [.ref (ad (19 + a0)), .int 15] (some (.long z6)) (eb_pJ (eb_pJ (eb_pJ (eb_pJ (eb_pJ σ 11 0 z1) 11 1 z2) 11 2 z3) 11 3 z4) 11 4 z5) := by rw [qz6]; exact c_X7_get l D cy ad (eb_pJ (eb_pJ (eb_pJ (eb_pJ (eb_pJ σ 11 0 z1) 11 1 z2) 11 2 z3) 11 3 z4) 11 4 z5) a0 15 (by omega)
  refine eb_callV (n := 1) (as := [.int 15]) (rest := [.ref (ad 11)]) X hw hl.1 (19 + a0) hc (by omega) (cR_i (by omega)) (eb_goodV wi_24_16 wi_16_5 wi_16_6 wi_2_7 wi_16_7) rfl (by decide +kernel) ⟨by decide, by decide⟩ rfl rfl (Nat.le_of_ble_eq_true rfl) dX8_take_54 ⟨by decide, by decide⟩ (st' := [.long z6, .ref (ad 11)]) rfl (fun H locs hw => ?_)
  refine eb_putJ (T := TX8) X hw 11 5 (by decide) ⟨rfl, rfl, rfl⟩ (by decide) rfl (fun _ h => List.mem_cons_of_mem _ (inlX8 _ h)) (List.mem_cons_of_mem _ wi_24_14) tyX8 tyX8_ok nmX8 rfl rfl rfl dX8_take_57 (fun H locs hw => ?_)
  refine lv_aload_n hx hb dX8_take_60 rfl (lv_at hl 0 rfl) ?_
  refine lv_aload_n hx hb dX8_take_61 rfl (lv_at hl 1 rfl) ?_
  refine lv_bipush (v := 16) hx hb dX8_take_62 (by decide) ?_
  obtain ⟨z7, qz7⟩ : ∃ t : Int64, t = m_X7_get (eb_pJ (eb_pJ (eb_pJ (eb_pJ (eb_pJ (eb_pJ σ 11 0 z1) 11 1 z2) 11 2 z3) 11 3 z4) 11 4 z5) 11 5 z6) a0 16 := ⟨_, rfl⟩
  have hm : eb_pJ (eb_pJ (eb_pJ (eb_pJ (eb_pJ (eb_pJ (eb_pJ σ 11 0 z1) 11 1 z2) 11 2 z3) 11 3 z4) 11 4 z5) 11 5 z6) 11 6 z7 = mm := by rw [qz7]; exact hm
  have hc : eb_M l yX7_get (Cond.code yX7_get cX7_get 2 (some .long) :: wsL_law) 0 0 D 33 cy cL ad (eb_pJ (eb_pJ (eb_pJ (eb_pJ (eb_pJ (eb_pJ σ 11 0 z1) 11 1 z2) 11 2 z3) 11 3 z4) 11 4 z5) 11 5 z6) [.ref (ad (19 + a0)), .int 16] (some (.long z7)) (eb_pJ (eb_pJ (eb_pJ (eb_pJ (eb_pJ (eb_pJ σ 11 0 z1) 11 1 z2) 11 2 z3) 11 3 z4) 11 4 z5) 11 5 z6) := by rw [qz7]; exact c_X7_get l D cy ad (eb_pJ (eb_pJ (eb_pJ (eb_pJ (eb_pJ (eb_pJ σ 11 0 z1) 11 1 z2) 11 2 z3) 11 3 z4) 11 4 z5) 11 5 z6) a0 16 (by omega)
  refine eb_callV (n := 1) (as := [.int 16]) (rest := [.ref (ad 11)]) X hw hl.1 (19 + a0) hc (by omega) (cR_i (by omega)) (eb_goodV wi_24_16 wi_16_5 wi_16_6 wi_2_7 wi_16_7) rfl (by decide +kernel) ⟨by decide, by decide⟩ rfl rfl (Nat.le_of_ble_eq_true rfl) dX8_take_64 ⟨by decide, by decide⟩ (st' := [.long z7, .ref (ad 11)]) rfl (fun H locs hw => ?_)
  refine eb_putJ (T := TX8) X hw 11 6 (by decide) ⟨rfl, rfl, rfl⟩ (by decide) rfl (fun _ h => List.mem_cons_of_mem _ (inlX8 _ h)) (List.mem_cons_of_mem _ wi_24_15) tyX8 tyX8_ok nmX8 rfl rfl rfl dX8_take_67 (fun H locs hw => ?_)
  subst hm
  exact eb_vret X hw rfl rfl dX8_take_70

set_option maxHeartbeats 4000000 in
set_option maxRecDepth 100000 in
theorem c_X8_isPowerOfTwo (l : Launch) (D : va_G) (cy : Nat → ClassId) (ad : Nat → Nat) (σ : eb_St) (a0 : Int64) (a1 : Int32) (a2 : Int32)  : eb_M l yX8_isPowerOfTwo (Cond.code yX8_isPowerOfTwo cX8_isPowerOfTwo 4 (some .boolean) :: wsL_law) 0 0 D 33 cy cL ad σ [.long a0, .int a1, .int a2] (some (.int (eb_b (m_X8_isPowerOfTwo a0 a1 a2)))) σ := by
  refine eb_start (own := RX8) (by decide) rfl rfl (Nat.le_of_ble_eq_true rfl) ?_
  intro p e s m args below meth c A ls X hw hl
  have hl : lv_has ls 4 [(0, .long a0), (2, .int a1), (3, .int a2)] := hl
  have hx := X.1.1
  have hb := X.1.2.1
  have hown := X.1.2.2.2.1
  have hts := X.1.2.2.2.2
  generalize hm : m_X8_isPowerOfTwo a0 a1 a2 = mm
  have hm : (if a0 < a1.toInt64 then false else (if a2.toInt64 < a0 then false else (if (a0 &&& (a0 - 1)) = 0 then true else false))) = mm := hm
  refine lv_lload_n hx hb dX8_isPowerOfTwo_0 rfl (lv_at hl 0 rfl) ?_
  refine lv_iload_n hx hb dX8_isPowerOfTwo_1 rfl (lv_at hl 1 rfl) ?_
  refine lv_i2l (v := a1.toInt64) hx hb dX8_isPowerOfTwo_2 rfl ?_
  refine eb_lif_lt (tgt := 28) hx hb dX8_isPowerOfTwo_3 dX8_isPowerOfTwo_4 (by decide) (fun h1 => ?_) (fun h1 => ?_)
  · have hm := (if_pos h1).symm.trans hm
    refine lv_iconst (v := 0) hx hb dX8_isPowerOfTwo_28 (by decide) ?_
    subst hm
    exact eb_zret X hw rfl rfl rfl rfl dX8_isPowerOfTwo_29
  · have hm := (if_neg h1).symm.trans hm
    refine lv_lload_n hx hb dX8_isPowerOfTwo_7 rfl (lv_at hl 0 rfl) ?_
    refine lv_iload_n hx hb dX8_isPowerOfTwo_8 rfl (lv_at hl 2 rfl) ?_
    refine lv_i2l (v := a2.toInt64) hx hb dX8_isPowerOfTwo_9 rfl ?_
    refine eb_lif_gt (tgt := 28) hx hb dX8_isPowerOfTwo_10 dX8_isPowerOfTwo_11 (by decide) (fun h2 => ?_) (fun h2 => ?_)
    · have hm := (if_pos h2).symm.trans hm
      refine lv_iconst (v := 0) hx hb dX8_isPowerOfTwo_28 (by decide) ?_
      subst hm
      exact eb_zret X hw rfl rfl rfl rfl dX8_isPowerOfTwo_29
    · have hm := (if_neg h2).symm.trans hm
      refine lv_lload_n hx hb dX8_isPowerOfTwo_14 rfl (lv_at hl 0 rfl) ?_
      refine lv_lload_n hx hb dX8_isPowerOfTwo_15 rfl (lv_at hl 0 rfl) ?_
      refine lv_lconst (v := 1) hx hb dX8_isPowerOfTwo_16 (by decide) ?_
      refine lv_lsub hx hb dX8_isPowerOfTwo_17 ?_
      refine lv_land hx hb dX8_isPowerOfTwo_18 ?_
      refine lv_lconst (v := 0) hx hb dX8_isPowerOfTwo_19 (by decide) ?_
      refine eb_lif_ne (tgt := 28) hx hb dX8_isPowerOfTwo_20 dX8_isPowerOfTwo_21 (by decide) (fun h3 => ?_) (fun h3 => ?_)
      · have hm := (if_neg h3).symm.trans hm
        refine lv_iconst (v := 0) hx hb dX8_isPowerOfTwo_28 (by decide) ?_
        subst hm
        exact eb_zret X hw rfl rfl rfl rfl dX8_isPowerOfTwo_29
      · have hm := (if_pos h3).symm.trans hm
        refine lv_iconst (v := 1) hx hb dX8_isPowerOfTwo_24 (by decide) ?_
        refine lv_goto (tgt := 29) hx hb dX8_isPowerOfTwo_25 (by decide) ?_
        subst hm
        exact eb_zret X hw rfl rfl rfl rfl dX8_isPowerOfTwo_29

set_option maxHeartbeats 4000000 in
set_option maxRecDepth 100000 in
theorem c_X8_liesAligned (l : Launch) (D : va_G) (cy : Nat → ClassId) (ad : Nat → Nat) (σ : eb_St) (a0 : Int64) (a1 : Int64)  : eb_M l yX8_liesAligned (Cond.code yX8_liesAligned cX8_liesAligned 4 (some .boolean) :: wsL_law) 0 0 D 33 cy cL ad σ [.long a0, .long a1] (some (.int (eb_b (m_X8_liesAligned a0 a1)))) σ := by
  refine eb_start (own := RX8) (by decide) rfl rfl (Nat.le_of_ble_eq_true rfl) ?_
  intro p e s m args below meth c A ls X hw hl
  have hl : lv_has ls 4 [(0, .long a0), (2, .long a1)] := hl
  have hx := X.1.1
  have hb := X.1.2.1
  have hown := X.1.2.2.2.1
  have hts := X.1.2.2.2.2
  generalize hm : m_X8_liesAligned a0 a1 = mm
  have hm : (if a0 < 0 then false else (if (65536 - a1) < a0 then false else (if (a0 &&& (a1 - 1)) = 0 then true else false))) = mm := hm
  refine lv_lload_n hx hb dX8_liesAligned_0 rfl (lv_at hl 0 rfl) ?_
  refine lv_lconst (v := 0) hx hb dX8_liesAligned_1 (by decide) ?_
  refine eb_lif_lt (tgt := 30) hx hb dX8_liesAligned_2 dX8_liesAligned_3 (by decide) (fun h1 => ?_) (fun h1 => ?_)
  · have hm := (if_pos h1).symm.trans hm
    refine lv_iconst (v := 0) hx hb dX8_liesAligned_30 (by decide) ?_
    subst hm
    exact eb_zret X hw rfl rfl rfl rfl dX8_liesAligned_31
  · have hm := (if_neg h1).symm.trans hm
    refine lv_lload_n hx hb dX8_liesAligned_6 rfl (lv_at hl 0 rfl) ?_
    refine lv_ldc2 hx hb hown (hts _ (List.mem_cons_of_mem _ wi_24_21)) dX8_liesAligned_7 ?_
    refine lv_lload_n hx hb dX8_liesAligned_10 rfl (lv_at hl 1 rfl) ?_
    refine lv_lsub hx hb dX8_liesAligned_11 ?_
    refine eb_lif_gt (tgt := 30) hx hb dX8_liesAligned_12 dX8_liesAligned_13 (by decide) (fun h2 => ?_) (fun h2 => ?_)
    · have hm := (if_pos h2).symm.trans hm
      refine lv_iconst (v := 0) hx hb dX8_liesAligned_30 (by decide) ?_
      subst hm
      exact eb_zret X hw rfl rfl rfl rfl dX8_liesAligned_31
    · have hm := (if_neg h2).symm.trans hm
      refine lv_lload_n hx hb dX8_liesAligned_16 rfl (lv_at hl 0 rfl) ?_
      refine lv_lload_n hx hb dX8_liesAligned_17 rfl (lv_at hl 1 rfl) ?_
      refine lv_lconst (v := 1) hx hb dX8_liesAligned_18 (by decide) ?_
      refine lv_lsub hx hb dX8_liesAligned_19 ?_
      refine lv_land hx hb dX8_liesAligned_20 ?_
      refine lv_lconst (v := 0) hx hb dX8_liesAligned_21 (by decide) ?_
      refine eb_lif_ne (tgt := 30) hx hb dX8_liesAligned_22 dX8_liesAligned_23 (by decide) (fun h3 => ?_) (fun h3 => ?_)
      · have hm := (if_neg h3).symm.trans hm
        refine lv_iconst (v := 0) hx hb dX8_liesAligned_30 (by decide) ?_
        subst hm
        exact eb_zret X hw rfl rfl rfl rfl dX8_liesAligned_31
      · have hm := (if_pos h3).symm.trans hm
        refine lv_iconst (v := 1) hx hb dX8_liesAligned_26 (by decide) ?_
        refine lv_goto (tgt := 31) hx hb dX8_liesAligned_27 (by decide) ?_
        subst hm
        exact eb_zret X hw rfl rfl rfl rfl dX8_liesAligned_31

set_option maxHeartbeats 4000000 in
set_option maxRecDepth 100000 in
theorem c_X8_isShareToldRightly (l : Launch) (D : va_G) (cy : Nat → ClassId) (ad : Nat → Nat) (σ : eb_St)   : eb_M l yX8_isShareToldRightly (Cond.code yX8_isShareToldRightly cX8_isShareToldRightly 1 (some .boolean) :: wsL_law) 1 27 D 33 cy cL ad σ [.ref (ad 11)] (some (.int (eb_b (m_X8_isShareToldRightly σ)))) σ := by
  refine eb_start (own := RX8) (by decide) rfl rfl (Nat.le_of_ble_eq_true rfl) ?_
  intro p e s m args below meth c A ls X hw hl
  have hl : lv_has ls 1 [(0, .ref (ad 11))] := hl
  have hx := X.1.1
  have hb := X.1.2.1
  have hown := X.1.2.2.2.1
  have hts := X.1.2.2.2.2
  generalize hm : m_X8_isShareToldRightly σ = mm
  have hm : (fun (z1 : Bool) => (if (eb_b z1) = 0 then false else (fun (z3 : Bool) => (if (eb_b z3) = 0 then false else (fun (z5 : Bool) => (if (eb_b z5) = 0 then true else false)) (m_X8_meet (σ.2 11 0) (σ.2 11 1) (σ.2 11 5) (σ.2 11 6)))) (m_X8_liesAligned (σ.2 11 5) (σ.2 11 6)))) (m_X8_isPowerOfTwo (σ.2 11 6) 8 4096) = mm := hm
  refine lv_aload_n hx hb dX8_isShareToldRightly_0 rfl (lv_at hl 0 rfl) ?_
  refine eb_get (T := TX8) X hw 11 6 (by decide) ⟨rfl, rfl, rfl⟩ (by decide) (fun _ h => List.mem_cons_of_mem _ (inlX8 _ h)) (List.mem_cons_of_mem _ wi_24_15) (v := .long (σ.2 11 6)) rfl dX8_isShareToldRightly_1 ?_
  refine lv_bipush (v := 8) hx hb dX8_isShareToldRightly_4 (by decide) ?_
  refine lv_sipush (v := 4096) hx hb dX8_isShareToldRightly_6 (by decide) ?_
  obtain ⟨z1, qz1⟩ : ∃ t : Bool, t = m_X8_isPowerOfTwo (σ.2 11 6) 8 4096 := ⟨_, rfl⟩
  have hm : (if (eb_b z1) = 0 then false else (fun (z3 : Bool) => (if (eb_b z3) = 0 then false else (fun (z5 : Bool) => (if (eb_b z5) = 0 then true else false)) (m_X8_meet (σ.2 11 0) (σ.2 11 1) (σ.2 11 5) (σ.2 11 6)))) (m_X8_liesAligned (σ.2 11 5) (σ.2 11 6))) = mm := by rw [qz1]; exact hm
  have hc : eb_M l yX8_isPowerOfTwo (Cond.code yX8_isPowerOfTwo cX8_isPowerOfTwo 4 (some .boolean) :: wsL_law) 0 0 D 33 cy cL ad σ [.long (σ.2 11 6), .int 8, .int 4096] (some (.int (eb_b z1))) σ := by rw [qz1]; exact c_X8_isPowerOfTwo l D cy ad σ (σ.2 11 6) 8 4096
  refine eb_callS (n := 3) X hw hl.1 (rest := []) hc (eb_goodS wi_24_23 wi_25_0 wi_4_7 wi_25_1) rfl (by decide +kernel) ⟨by decide, by decide⟩ rfl rfl (Nat.le_of_ble_eq_true rfl) dX8_isShareToldRightly_9 ⟨by decide, by decide⟩ (st' := [.int (eb_b z1)]) rfl (fun H locs hw => ?_)
  refine lv_if_eq (tgt := 55) hx hb dX8_isShareToldRightly_12 (by decide) (fun h2 => ?_) (fun h2 => ?_)
  · have hm := (if_pos h2).symm.trans hm
    refine lv_iconst (v := 0) hx hb dX8_isShareToldRightly_55 (by decide) ?_
    subst hm
    exact eb_zret X hw rfl rfl rfl rfl dX8_isShareToldRightly_56
  · have hm := (if_neg h2).symm.trans hm
    refine lv_aload_n hx hb dX8_isShareToldRightly_15 rfl (lv_at hl 0 rfl) ?_
    refine eb_get (T := TX8) X hw 11 5 (by decide) ⟨rfl, rfl, rfl⟩ (by decide) (fun _ h => List.mem_cons_of_mem _ (inlX8 _ h)) (List.mem_cons_of_mem _ wi_24_14) (v := .long (σ.2 11 5)) rfl dX8_isShareToldRightly_16 ?_
    refine lv_aload_n hx hb dX8_isShareToldRightly_19 rfl (lv_at hl 0 rfl) ?_
    refine eb_get (T := TX8) X hw 11 6 (by decide) ⟨rfl, rfl, rfl⟩ (by decide) (fun _ h => List.mem_cons_of_mem _ (inlX8 _ h)) (List.mem_cons_of_mem _ wi_24_15) (v := .long (σ.2 11 6)) rfl dX8_isShareToldRightly_20 ?_
    obtain ⟨z3, qz3⟩ : ∃ t : Bool, t = m_X8_liesAligned (σ.2 11 5) (σ.2 11 6) := ⟨_, rfl⟩
    have hm : (if (eb_b z3) = 0 then false else (fun (z5 : Bool) => (if (eb_b z5) = 0 then true else false)) (m_X8_meet (σ.2 11 0) (σ.2 11 1) (σ.2 11 5) (σ.2 11 6))) = mm := by rw [qz3]; exact hm
    have hc : eb_M l yX8_liesAligned (Cond.code yX8_liesAligned cX8_liesAligned 4 (some .boolean) :: wsL_law) 0 0 D 33 cy cL ad σ [.long (σ.2 11 5), .long (σ.2 11 6)] (some (.int (eb_b z3))) σ := by rw [qz3]; exact c_X8_liesAligned l D cy ad σ (σ.2 11 5) (σ.2 11 6)
    refine eb_callS (n := 2) X hw hl.1 (rest := []) hc (eb_goodS wi_25_2 wi_25_3 wi_4_7 wi_25_4) rfl (by decide +kernel) ⟨by decide, by decide⟩ rfl rfl (Nat.le_of_ble_eq_true rfl) dX8_isShareToldRightly_23 ⟨by decide, by decide⟩ (st' := [.int (eb_b z3)]) rfl (fun H locs hw => ?_)
    refine lv_if_eq (tgt := 55) hx hb dX8_isShareToldRightly_26 (by decide) (fun h4 => ?_) (fun h4 => ?_)
    · have hm := (if_pos h4).symm.trans hm
      refine lv_iconst (v := 0) hx hb dX8_isShareToldRightly_55 (by decide) ?_
      subst hm
      exact eb_zret X hw rfl rfl rfl rfl dX8_isShareToldRightly_56
    · have hm := (if_neg h4).symm.trans hm
      refine lv_aload_n hx hb dX8_isShareToldRightly_29 rfl (lv_at hl 0 rfl) ?_
      refine eb_get (T := TX8) X hw 11 0 (by decide) ⟨rfl, rfl, rfl⟩ (by decide) (fun _ h => List.mem_cons_of_mem _ (inlX8 _ h)) (List.mem_cons_of_mem _ wi_24_9) (v := .long (σ.2 11 0)) rfl dX8_isShareToldRightly_30 ?_
      refine lv_aload_n hx hb dX8_isShareToldRightly_33 rfl (lv_at hl 0 rfl) ?_
      refine eb_get (T := TX8) X hw 11 1 (by decide) ⟨rfl, rfl, rfl⟩ (by decide) (fun _ h => List.mem_cons_of_mem _ (inlX8 _ h)) (List.mem_cons_of_mem _ wi_24_10) (v := .long (σ.2 11 1)) rfl dX8_isShareToldRightly_34 ?_
      refine lv_aload_n hx hb dX8_isShareToldRightly_37 rfl (lv_at hl 0 rfl) ?_
      refine eb_get (T := TX8) X hw 11 5 (by decide) ⟨rfl, rfl, rfl⟩ (by decide) (fun _ h => List.mem_cons_of_mem _ (inlX8 _ h)) (List.mem_cons_of_mem _ wi_24_14) (v := .long (σ.2 11 5)) rfl dX8_isShareToldRightly_38 ?_
      refine lv_aload_n hx hb dX8_isShareToldRightly_41 rfl (lv_at hl 0 rfl) ?_
      refine eb_get (T := TX8) X hw 11 6 (by decide) ⟨rfl, rfl, rfl⟩ (by decide) (fun _ h => List.mem_cons_of_mem _ (inlX8 _ h)) (List.mem_cons_of_mem _ wi_24_15) (v := .long (σ.2 11 6)) rfl dX8_isShareToldRightly_42 ?_
      obtain ⟨z5, qz5⟩ : ∃ t : Bool, t = m_X8_meet (σ.2 11 0) (σ.2 11 1) (σ.2 11 5) (σ.2 11 6) := ⟨_, rfl⟩
      have hm : (if (eb_b z5) = 0 then true else false) = mm := by rw [qz5]; exact hm
      have hc : eb_M l yX8_meet (Cond.code yX8_meet cX8_meet 8 (some .boolean) :: wsL_law) 0 0 D 33 cy cL ad σ [.long (σ.2 11 0), .long (σ.2 11 1), .long (σ.2 11 5), .long (σ.2 11 6)] (some (.int (eb_b z5))) σ := by rw [qz5]; exact c_X8_meet l D cy ad σ (σ.2 11 0) (σ.2 11 1) (σ.2 11 5) (σ.2 11 6)
      refine eb_callS (n := 4) X hw hl.1 (rest := []) hc (eb_goodS wi_25_9 wi_10_21 wi_4_7 wi_10_22) rfl (by decide +kernel) ⟨by decide, by decide⟩ rfl rfl (Nat.le_of_ble_eq_true rfl) dX8_isShareToldRightly_45 ⟨by decide, by decide⟩ (st' := [.int (eb_b z5)]) rfl (fun H locs hw => ?_)
      refine lv_if_ne (tgt := 55) hx hb dX8_isShareToldRightly_48 (by decide) (fun h6 => ?_) (fun h6 => ?_)
      · have hm := (if_neg h6).symm.trans hm
        refine lv_iconst (v := 0) hx hb dX8_isShareToldRightly_55 (by decide) ?_
        subst hm
        exact eb_zret X hw rfl rfl rfl rfl dX8_isShareToldRightly_56
      · have hm := (if_pos h6).symm.trans hm
        refine lv_iconst (v := 1) hx hb dX8_isShareToldRightly_51 (by decide) ?_
        refine lv_goto (tgt := 56) hx hb dX8_isShareToldRightly_52 (by decide) ?_
        subst hm
        exact eb_zret X hw rfl rfl rfl rfl dX8_isShareToldRightly_56

set_option maxHeartbeats 4000000 in
set_option maxRecDepth 100000 in
theorem k_X8_isToldRightly_84 {p : Program} {l : Launch} {e : Env} {s : State} {m : MethodId} {args : Array Value} {below : List Frame} {meth : Method} {c : Code} {A : Nat → Prop} {H : Heap} {locs : List Loc} {ls : Array Slot} {D : va_G} {cy : Nat → ClassId} {ad : Nat → Nat} (X : eb_X p s m args meth c cX8_isToldRightly 1 RX8 (Cond.code yX8_isToldRightly cX8_isToldRightly 1 (some .boolean) :: wsL_law) (some .boolean) D cy A)   (σ : eb_St)   {mm : Bool} (hm : (m_X8_isToldRightly_84  σ ) = mm) (hw : eb_H D 33 cy cL ad A s.heap σ H locs) (hl : lv_has ls 1 [(0, .ref (ad 11))]) : W p l e ({ frames := 2, cells := 0, slots := 0, locals := 47 } : Room) s m args below meth c H locs 0 0 (MQ below (eb_Q D 33 cy cL ad A (some (.int (eb_b mm))) σ) args s 0 0 A) (F0 m 84 ls []) := by
  have hx := X.1.1
  have hb := X.1.2.1
  have hown := X.1.2.2.2.1
  have hts := X.1.2.2.2.2
  have hm : (if ((σ.2 11 4) &&& 3) = 0 then (if (σ.2 11 4) < 0 then false else (if (σ.2 11 1) ≤ (σ.2 11 4) then false else (if (σ.2 11 6) = 0 then true else (fun (z14 : Bool) => (if (eb_b z14) = 0 then false else true)) (m_X8_isShareToldRightly σ)))) else false) = mm := hm
  refine lv_aload_n hx hb dX8_isToldRightly_84 rfl (lv_at hl 0 rfl) ?_
  refine eb_get (T := TX8) X hw 11 4 (by decide) ⟨rfl, rfl, rfl⟩ (by decide) (fun _ h => List.mem_cons_of_mem _ (inlX8 _ h)) (List.mem_cons_of_mem _ wi_24_13) (v := .long (σ.2 11 4)) rfl dX8_isToldRightly_85 ?_
  refine lv_ldc2 hx hb hown (hts _ (List.mem_cons_of_mem _ wi_24_22)) dX8_isToldRightly_88 ?_
  refine lv_land hx hb dX8_isToldRightly_91 ?_
  refine lv_lconst (v := 0) hx hb dX8_isToldRightly_92 (by decide) ?_
  refine eb_lif_ne (tgt := 138) hx hb dX8_isToldRightly_93 dX8_isToldRightly_94 (by decide) (fun h10 => ?_) (fun h10 => ?_)
  · have hm := (if_neg h10).symm.trans hm
    refine lv_iconst (v := 0) hx hb dX8_isToldRightly_138 (by decide) ?_
    subst hm
    exact eb_zret X hw rfl rfl rfl rfl dX8_isToldRightly_139
  · have hm := (if_pos h10).symm.trans hm
    refine lv_aload_n hx hb dX8_isToldRightly_97 rfl (lv_at hl 0 rfl) ?_
    refine eb_get (T := TX8) X hw 11 4 (by decide) ⟨rfl, rfl, rfl⟩ (by decide) (fun _ h => List.mem_cons_of_mem _ (inlX8 _ h)) (List.mem_cons_of_mem _ wi_24_13) (v := .long (σ.2 11 4)) rfl dX8_isToldRightly_98 ?_
    refine lv_lconst (v := 0) hx hb dX8_isToldRightly_101 (by decide) ?_
    refine eb_lif_lt (tgt := 138) hx hb dX8_isToldRightly_102 dX8_isToldRightly_103 (by decide) (fun h11 => ?_) (fun h11 => ?_)
    · have hm := (if_pos h11).symm.trans hm
      refine lv_iconst (v := 0) hx hb dX8_isToldRightly_138 (by decide) ?_
      subst hm
      exact eb_zret X hw rfl rfl rfl rfl dX8_isToldRightly_139
    · have hm := (if_neg h11).symm.trans hm
      refine lv_aload_n hx hb dX8_isToldRightly_106 rfl (lv_at hl 0 rfl) ?_
      refine eb_get (T := TX8) X hw 11 4 (by decide) ⟨rfl, rfl, rfl⟩ (by decide) (fun _ h => List.mem_cons_of_mem _ (inlX8 _ h)) (List.mem_cons_of_mem _ wi_24_13) (v := .long (σ.2 11 4)) rfl dX8_isToldRightly_107 ?_
      refine lv_aload_n hx hb dX8_isToldRightly_110 rfl (lv_at hl 0 rfl) ?_
      refine eb_get (T := TX8) X hw 11 1 (by decide) ⟨rfl, rfl, rfl⟩ (by decide) (fun _ h => List.mem_cons_of_mem _ (inlX8 _ h)) (List.mem_cons_of_mem _ wi_24_10) (v := .long (σ.2 11 1)) rfl dX8_isToldRightly_111 ?_
      refine eb_lif_ge (tgt := 138) hx hb dX8_isToldRightly_114 dX8_isToldRightly_115 (by decide) (fun h12 => ?_) (fun h12 => ?_)
      · have hm := (if_pos h12).symm.trans hm
        refine lv_iconst (v := 0) hx hb dX8_isToldRightly_138 (by decide) ?_
        subst hm
        exact eb_zret X hw rfl rfl rfl rfl dX8_isToldRightly_139
      · have hm := (if_neg h12).symm.trans hm
        refine lv_aload_n hx hb dX8_isToldRightly_118 rfl (lv_at hl 0 rfl) ?_
        refine eb_get (T := TX8) X hw 11 6 (by decide) ⟨rfl, rfl, rfl⟩ (by decide) (fun _ h => List.mem_cons_of_mem _ (inlX8 _ h)) (List.mem_cons_of_mem _ wi_24_15) (v := .long (σ.2 11 6)) rfl dX8_isToldRightly_119 ?_
        refine lv_lconst (v := 0) hx hb dX8_isToldRightly_122 (by decide) ?_
        refine eb_lif_eq (tgt := 134) hx hb dX8_isToldRightly_123 dX8_isToldRightly_124 (by decide) (fun h13 => ?_) (fun h13 => ?_)
        · have hm := (if_pos h13).symm.trans hm
          refine lv_iconst (v := 1) hx hb dX8_isToldRightly_134 (by decide) ?_
          refine lv_goto (tgt := 139) hx hb dX8_isToldRightly_135 (by decide) ?_
          subst hm
          exact eb_zret X hw rfl rfl rfl rfl dX8_isToldRightly_139
        · have hm := (if_neg h13).symm.trans hm
          refine lv_aload_n hx hb dX8_isToldRightly_127 rfl (lv_at hl 0 rfl) ?_
          obtain ⟨z14, qz14⟩ : ∃ t : Bool, t = m_X8_isShareToldRightly σ := ⟨_, rfl⟩
          have hm : (if (eb_b z14) = 0 then false else true) = mm := by rw [qz14]; exact hm
          have hc : eb_M l yX8_isShareToldRightly (Cond.code yX8_isShareToldRightly cX8_isShareToldRightly 1 (some .boolean) :: wsL_law) 1 27 D 33 cy cL ad σ [.ref (ad 11)] (some (.int (eb_b z14))) σ := by rw [qz14]; exact c_X8_isShareToldRightly l D cy ad σ 
          refine eb_callV (n := 0) (as := []) (rest := []) X hw hl.1 11 hc (by decide) ⟨rfl, rfl, rfl⟩ (eb_goodV wi_25_5 wi_25_6 wi_25_7 wi_4_7 wi_25_8) rfl (by decide +kernel) ⟨by decide, by decide⟩ rfl rfl (Nat.le_of_ble_eq_true rfl) dX8_isToldRightly_128 ⟨by decide, by decide⟩ (st' := [.int (eb_b z14)]) rfl (fun H locs hw => ?_)
          refine lv_if_eq (tgt := 138) hx hb dX8_isToldRightly_131 (by decide) (fun h15 => ?_) (fun h15 => ?_)
          · have hm := (if_pos h15).symm.trans hm
            refine lv_iconst (v := 0) hx hb dX8_isToldRightly_138 (by decide) ?_
            subst hm
            exact eb_zret X hw rfl rfl rfl rfl dX8_isToldRightly_139
          · have hm := (if_neg h15).symm.trans hm
            refine lv_iconst (v := 1) hx hb dX8_isToldRightly_134 (by decide) ?_
            refine lv_goto (tgt := 139) hx hb dX8_isToldRightly_135 (by decide) ?_
            subst hm
            exact eb_zret X hw rfl rfl rfl rfl dX8_isToldRightly_139
set_option maxHeartbeats 4000000 in
set_option maxRecDepth 100000 in
theorem c_X8_isToldRightly (l : Launch) (D : va_G) (cy : Nat → ClassId) (ad : Nat → Nat) (σ : eb_St)   : eb_M l yX8_isToldRightly (Cond.code yX8_isToldRightly cX8_isToldRightly 1 (some .boolean) :: wsL_law) 2 47 D 33 cy cL ad σ [.ref (ad 11)] (some (.int (eb_b (m_X8_isToldRightly σ)))) σ := by
  refine eb_start (own := RX8) (by decide) rfl rfl (Nat.le_of_ble_eq_true rfl) ?_
  intro p e s m args below meth c A ls X hw hl
  have hl : lv_has ls 1 [(0, .ref (ad 11))] := hl
  have hx := X.1.1
  have hb := X.1.2.1
  have hown := X.1.2.2.2.1
  have hts := X.1.2.2.2.2
  generalize hm : m_X8_isToldRightly σ = mm
  have hm : (fun (z1 : Bool) => (if (eb_b z1) = 0 then false else (fun (z3 : Bool) => (if (eb_b z3) = 0 then false else (if (σ.2 11 3) < 0 then false else (if (σ.2 11 1) < (σ.2 11 3) then false else (if (σ.2 11 3) = 0 then m_X8_isToldRightly_84  σ else (if (σ.2 11 2) < 0 then false else (if (65536 - (σ.2 11 3)) < (σ.2 11 2) then false else m_X8_isToldRightly_84  σ))))))) (m_X8_liesAligned (σ.2 11 0) (σ.2 11 1)))) (m_X8_isPowerOfTwo (σ.2 11 1) 32 16384) = mm := hm
  refine lv_aload_n hx hb dX8_isToldRightly_0 rfl (lv_at hl 0 rfl) ?_
  refine eb_get (T := TX8) X hw 11 1 (by decide) ⟨rfl, rfl, rfl⟩ (by decide) (fun _ h => List.mem_cons_of_mem _ (inlX8 _ h)) (List.mem_cons_of_mem _ wi_24_10) (v := .long (σ.2 11 1)) rfl dX8_isToldRightly_1 ?_
  refine lv_bipush (v := 32) hx hb dX8_isToldRightly_4 (by decide) ?_
  refine lv_sipush (v := 16384) hx hb dX8_isToldRightly_6 (by decide) ?_
  obtain ⟨z1, qz1⟩ : ∃ t : Bool, t = m_X8_isPowerOfTwo (σ.2 11 1) 32 16384 := ⟨_, rfl⟩
  have hm : (if (eb_b z1) = 0 then false else (fun (z3 : Bool) => (if (eb_b z3) = 0 then false else (if (σ.2 11 3) < 0 then false else (if (σ.2 11 1) < (σ.2 11 3) then false else (if (σ.2 11 3) = 0 then m_X8_isToldRightly_84  σ else (if (σ.2 11 2) < 0 then false else (if (65536 - (σ.2 11 3)) < (σ.2 11 2) then false else m_X8_isToldRightly_84  σ))))))) (m_X8_liesAligned (σ.2 11 0) (σ.2 11 1))) = mm := by rw [qz1]; exact hm
  have hc : eb_M l yX8_isPowerOfTwo (Cond.code yX8_isPowerOfTwo cX8_isPowerOfTwo 4 (some .boolean) :: wsL_law) 0 0 D 33 cy cL ad σ [.long (σ.2 11 1), .int 32, .int 16384] (some (.int (eb_b z1))) σ := by rw [qz1]; exact c_X8_isPowerOfTwo l D cy ad σ (σ.2 11 1) 32 16384
  refine eb_callS (n := 3) X hw hl.1 (rest := []) hc (eb_goodS wi_24_23 wi_25_0 wi_4_7 wi_25_1) rfl (by decide +kernel) ⟨by decide, by decide⟩ rfl rfl (Nat.le_of_ble_eq_true rfl) dX8_isToldRightly_9 ⟨by decide, by decide⟩ (st' := [.int (eb_b z1)]) rfl (fun H locs hw => ?_)
  refine lv_if_eq (tgt := 138) hx hb dX8_isToldRightly_12 (by decide) (fun h2 => ?_) (fun h2 => ?_)
  · have hm := (if_pos h2).symm.trans hm
    refine lv_iconst (v := 0) hx hb dX8_isToldRightly_138 (by decide) ?_
    subst hm
    exact eb_zret X hw rfl rfl rfl rfl dX8_isToldRightly_139
  · have hm := (if_neg h2).symm.trans hm
    refine lv_aload_n hx hb dX8_isToldRightly_15 rfl (lv_at hl 0 rfl) ?_
    refine eb_get (T := TX8) X hw 11 0 (by decide) ⟨rfl, rfl, rfl⟩ (by decide) (fun _ h => List.mem_cons_of_mem _ (inlX8 _ h)) (List.mem_cons_of_mem _ wi_24_9) (v := .long (σ.2 11 0)) rfl dX8_isToldRightly_16 ?_
    refine lv_aload_n hx hb dX8_isToldRightly_19 rfl (lv_at hl 0 rfl) ?_
    refine eb_get (T := TX8) X hw 11 1 (by decide) ⟨rfl, rfl, rfl⟩ (by decide) (fun _ h => List.mem_cons_of_mem _ (inlX8 _ h)) (List.mem_cons_of_mem _ wi_24_10) (v := .long (σ.2 11 1)) rfl dX8_isToldRightly_20 ?_
    obtain ⟨z3, qz3⟩ : ∃ t : Bool, t = m_X8_liesAligned (σ.2 11 0) (σ.2 11 1) := ⟨_, rfl⟩
    have hm : (if (eb_b z3) = 0 then false else (if (σ.2 11 3) < 0 then false else (if (σ.2 11 1) < (σ.2 11 3) then false else (if (σ.2 11 3) = 0 then m_X8_isToldRightly_84  σ else (if (σ.2 11 2) < 0 then false else (if (65536 - (σ.2 11 3)) < (σ.2 11 2) then false else m_X8_isToldRightly_84  σ)))))) = mm := by rw [qz3]; exact hm
    have hc : eb_M l yX8_liesAligned (Cond.code yX8_liesAligned cX8_liesAligned 4 (some .boolean) :: wsL_law) 0 0 D 33 cy cL ad σ [.long (σ.2 11 0), .long (σ.2 11 1)] (some (.int (eb_b z3))) σ := by rw [qz3]; exact c_X8_liesAligned l D cy ad σ (σ.2 11 0) (σ.2 11 1)
    refine eb_callS (n := 2) X hw hl.1 (rest := []) hc (eb_goodS wi_25_2 wi_25_3 wi_4_7 wi_25_4) rfl (by decide +kernel) ⟨by decide, by decide⟩ rfl rfl (Nat.le_of_ble_eq_true rfl) dX8_isToldRightly_23 ⟨by decide, by decide⟩ (st' := [.int (eb_b z3)]) rfl (fun H locs hw => ?_)
    refine lv_if_eq (tgt := 138) hx hb dX8_isToldRightly_26 (by decide) (fun h4 => ?_) (fun h4 => ?_)
    · have hm := (if_pos h4).symm.trans hm
      refine lv_iconst (v := 0) hx hb dX8_isToldRightly_138 (by decide) ?_
      subst hm
      exact eb_zret X hw rfl rfl rfl rfl dX8_isToldRightly_139
    · have hm := (if_neg h4).symm.trans hm
      refine lv_aload_n hx hb dX8_isToldRightly_29 rfl (lv_at hl 0 rfl) ?_
      refine eb_get (T := TX8) X hw 11 3 (by decide) ⟨rfl, rfl, rfl⟩ (by decide) (fun _ h => List.mem_cons_of_mem _ (inlX8 _ h)) (List.mem_cons_of_mem _ wi_24_12) (v := .long (σ.2 11 3)) rfl dX8_isToldRightly_30 ?_
      refine lv_lconst (v := 0) hx hb dX8_isToldRightly_33 (by decide) ?_
      refine eb_lif_lt (tgt := 138) hx hb dX8_isToldRightly_34 dX8_isToldRightly_35 (by decide) (fun h5 => ?_) (fun h5 => ?_)
      · have hm := (if_pos h5).symm.trans hm
        refine lv_iconst (v := 0) hx hb dX8_isToldRightly_138 (by decide) ?_
        subst hm
        exact eb_zret X hw rfl rfl rfl rfl dX8_isToldRightly_139
      · have hm := (if_neg h5).symm.trans hm
        refine lv_aload_n hx hb dX8_isToldRightly_38 rfl (lv_at hl 0 rfl) ?_
        refine eb_get (T := TX8) X hw 11 3 (by decide) ⟨rfl, rfl, rfl⟩ (by decide) (fun _ h => List.mem_cons_of_mem _ (inlX8 _ h)) (List.mem_cons_of_mem _ wi_24_12) (v := .long (σ.2 11 3)) rfl dX8_isToldRightly_39 ?_
        refine lv_aload_n hx hb dX8_isToldRightly_42 rfl (lv_at hl 0 rfl) ?_
        refine eb_get (T := TX8) X hw 11 1 (by decide) ⟨rfl, rfl, rfl⟩ (by decide) (fun _ h => List.mem_cons_of_mem _ (inlX8 _ h)) (List.mem_cons_of_mem _ wi_24_10) (v := .long (σ.2 11 1)) rfl dX8_isToldRightly_43 ?_
        refine eb_lif_gt (tgt := 138) hx hb dX8_isToldRightly_46 dX8_isToldRightly_47 (by decide) (fun h6 => ?_) (fun h6 => ?_)
        · have hm := (if_pos h6).symm.trans hm
          refine lv_iconst (v := 0) hx hb dX8_isToldRightly_138 (by decide) ?_
          subst hm
          exact eb_zret X hw rfl rfl rfl rfl dX8_isToldRightly_139
        · have hm := (if_neg h6).symm.trans hm
          refine lv_aload_n hx hb dX8_isToldRightly_50 rfl (lv_at hl 0 rfl) ?_
          refine eb_get (T := TX8) X hw 11 3 (by decide) ⟨rfl, rfl, rfl⟩ (by decide) (fun _ h => List.mem_cons_of_mem _ (inlX8 _ h)) (List.mem_cons_of_mem _ wi_24_12) (v := .long (σ.2 11 3)) rfl dX8_isToldRightly_51 ?_
          refine lv_lconst (v := 0) hx hb dX8_isToldRightly_54 (by decide) ?_
          refine eb_lif_eq (tgt := 84) hx hb dX8_isToldRightly_55 dX8_isToldRightly_56 (by decide) (fun h7 => ?_) (fun h7 => ?_)
          · have hm := (if_pos h7).symm.trans hm
            exact k_X8_isToldRightly_84 X   σ hm hw (lv_sub hl [0] rfl)
          · have hm := (if_neg h7).symm.trans hm
            refine lv_aload_n hx hb dX8_isToldRightly_59 rfl (lv_at hl 0 rfl) ?_
            refine eb_get (T := TX8) X hw 11 2 (by decide) ⟨rfl, rfl, rfl⟩ (by decide) (fun _ h => List.mem_cons_of_mem _ (inlX8 _ h)) (List.mem_cons_of_mem _ wi_24_11) (v := .long (σ.2 11 2)) rfl dX8_isToldRightly_60 ?_
            refine lv_lconst (v := 0) hx hb dX8_isToldRightly_63 (by decide) ?_
            refine eb_lif_lt (tgt := 138) hx hb dX8_isToldRightly_64 dX8_isToldRightly_65 (by decide) (fun h8 => ?_) (fun h8 => ?_)
            · have hm := (if_pos h8).symm.trans hm
              refine lv_iconst (v := 0) hx hb dX8_isToldRightly_138 (by decide) ?_
              subst hm
              exact eb_zret X hw rfl rfl rfl rfl dX8_isToldRightly_139
            · have hm := (if_neg h8).symm.trans hm
              refine lv_aload_n hx hb dX8_isToldRightly_68 rfl (lv_at hl 0 rfl) ?_
              refine eb_get (T := TX8) X hw 11 2 (by decide) ⟨rfl, rfl, rfl⟩ (by decide) (fun _ h => List.mem_cons_of_mem _ (inlX8 _ h)) (List.mem_cons_of_mem _ wi_24_11) (v := .long (σ.2 11 2)) rfl dX8_isToldRightly_69 ?_
              refine lv_ldc2 hx hb hown (hts _ (List.mem_cons_of_mem _ wi_24_21)) dX8_isToldRightly_72 ?_
              refine lv_aload_n hx hb dX8_isToldRightly_75 rfl (lv_at hl 0 rfl) ?_
              refine eb_get (T := TX8) X hw 11 3 (by decide) ⟨rfl, rfl, rfl⟩ (by decide) (fun _ h => List.mem_cons_of_mem _ (inlX8 _ h)) (List.mem_cons_of_mem _ wi_24_12) (v := .long (σ.2 11 3)) rfl dX8_isToldRightly_76 ?_
              refine lv_lsub hx hb dX8_isToldRightly_79 ?_
              refine eb_lif_gt (tgt := 138) hx hb dX8_isToldRightly_80 dX8_isToldRightly_81 (by decide) (fun h9 => ?_) (fun h9 => ?_)
              · have hm := (if_pos h9).symm.trans hm
                refine lv_iconst (v := 0) hx hb dX8_isToldRightly_138 (by decide) ?_
                subst hm
                exact eb_zret X hw rfl rfl rfl rfl dX8_isToldRightly_139
              · have hm := (if_neg h9).symm.trans hm
                exact k_X8_isToldRightly_84 X   σ hm hw (lv_sub hl [0] rfl)

set_option maxHeartbeats 4000000 in
set_option maxRecDepth 100000 in
theorem k_X2_begin_58 {p : Program} {l : Launch} {e : Env} {s : State} {m : MethodId} {args : Array Value} {below : List Frame} {meth : Method} {c : Code} {A : Nat → Prop} {H : Heap} {locs : List Loc} {ls : Array Slot} {D : va_G} {cy : Nat → ClassId} {ad : Nat → Nat} (X : eb_X p s m args meth c cX2_begin 6 RX2 (Cond.code yX2_begin cX2_begin 6 none :: wsL_law) none D cy A)   (σ : eb_St) (v0 : Nat) (v2 : Int64) (v4 : Int64) (s0 : Int32) (s1 : Nat) (bv0 : v0 < 6) (bs1 : s1 < 6) {mm : eb_St} (hm : (m_X2_begin_58  σ v0 v2 v4 s0 s1) = mm) (hw : eb_H D 33 cy cL ad A s.heap σ H locs) (hl : lv_has ls 6 [(0, .ref (ad (13 + v0))), (2, .long v2), (4, .long v4)]) : W p l e ({ frames := 2, cells := 0, slots := 0, locals := 46 } : Room) s m args below meth c H locs 0 0 (MQ below (eb_Q D 33 cy cL ad A (none) mm) args s 0 0 A) (F0 m 58 ls [.int s0, .ref (ad (13 + s1))]) := by
  have hx := X.1.1
  have hb := X.1.2.1
  have hown := X.1.2.2.2.1
  have hts := X.1.2.2.2.2
  have hm : (fun (z2 : eb_St) => z2) (m_X7_clear (eb_pJ (eb_pJ (eb_pI (eb_pI (eb_pI σ (13 + s1) 5 s0) (13 + v0) 7 0) (13 + v0) 8 0) (13 + v0) 9 v2) (13 + v0) 10 v4) v0 ((((eb_pJ (eb_pJ (eb_pI (eb_pI (eb_pI σ (13 + s1) 5 s0) (13 + v0) 7 0) (13 + v0) 8 0) (13 + v0) 9 v2) (13 + v0) 10 v4).1 (13 + v0) 2) + ((eb_pJ (eb_pJ (eb_pI (eb_pI (eb_pI σ (13 + s1) 5 s0) (13 + v0) 7 0) (13 + v0) 8 0) (13 + v0) 9 v2) (13 + v0) 10 v4).1 (13 + v0) 4)).toInt64)) = mm := hm
  refine eb_putI (T := TX2) X hw (13 + s1) 5 (by omega) (cE_i (by omega)) (by decide) (cE_t (by omega) 5) (fun _ h => List.mem_cons_of_mem _ (inlX2 _ h)) (List.mem_cons_of_mem _ wi_28_2) tyX2 tyX2_ok nmX2 rfl rfl rfl dX2_begin_58 (fun H locs hw => ?_)
  refine lv_aload_n hx hb dX2_begin_61 rfl (lv_at hl 0 rfl) ?_
  refine lv_iconst (v := 0) hx hb dX2_begin_62 (by decide) ?_
  refine eb_putI (T := TX2) X hw (13 + v0) 7 (by omega) (cE_i (by omega)) (by decide) (cE_t (by omega) 7) (fun _ h => List.mem_cons_of_mem _ (inlX2 _ h)) (List.mem_cons_of_mem _ wi_28_3) tyX2 tyX2_ok nmX2 rfl rfl rfl dX2_begin_63 (fun H locs hw => ?_)
  refine lv_aload_n hx hb dX2_begin_66 rfl (lv_at hl 0 rfl) ?_
  refine lv_iconst (v := 0) hx hb dX2_begin_67 (by decide) ?_
  refine eb_putI (T := TX2) X hw (13 + v0) 8 (by omega) (cE_i (by omega)) (by decide) (cE_t (by omega) 8) (fun _ h => List.mem_cons_of_mem _ (inlX2 _ h)) (List.mem_cons_of_mem _ wi_28_4) tyX2 tyX2_ok nmX2 rfl rfl rfl dX2_begin_68 (fun H locs hw => ?_)
  refine lv_aload_n hx hb dX2_begin_71 rfl (lv_at hl 0 rfl) ?_
  refine lv_lload_n hx hb dX2_begin_72 rfl (lv_at hl 1 rfl) ?_
  refine eb_putJ (T := TX2) X hw (13 + v0) 9 (by omega) (cE_i (by omega)) (by decide) (cE_t (by omega) 9) (fun _ h => List.mem_cons_of_mem _ (inlX2 _ h)) (List.mem_cons_of_mem _ wi_28_5) tyX2 tyX2_ok nmX2 rfl rfl rfl dX2_begin_73 (fun H locs hw => ?_)
  refine lv_aload_n hx hb dX2_begin_76 rfl (lv_at hl 0 rfl) ?_
  refine lv_lload hx hb dX2_begin_77 (lv_at hl 2 rfl) ?_
  refine eb_putJ (T := TX2) X hw (13 + v0) 10 (by omega) (cE_i (by omega)) (by decide) (cE_t (by omega) 10) (fun _ h => List.mem_cons_of_mem _ (inlX2 _ h)) (List.mem_cons_of_mem _ wi_28_6) tyX2 tyX2_ok nmX2 rfl rfl rfl dX2_begin_79 (fun H locs hw => ?_)
  refine lv_aload_n hx hb dX2_begin_82 rfl (lv_at hl 0 rfl) ?_
  refine eb_get (T := TX2) X hw (13 + v0) 0 (by omega) (cE_i (by omega)) (by decide) (fun _ h => List.mem_cons_of_mem _ (inlX2 _ h)) (List.mem_cons_of_mem _ wi_5_1) (v := .ref (ad (19 + v0))) (eb_sR (cE_t (by omega) 0) (cE_g (by omega))) dX2_begin_83 ?_
  refine lv_aload_n hx hb dX2_begin_86 rfl (lv_at hl 0 rfl) ?_
  refine eb_get (T := TX2) X hw (13 + v0) 2 (by omega) (cE_i (by omega)) (by decide) (fun _ h => List.mem_cons_of_mem _ (inlX2 _ h)) (List.mem_cons_of_mem _ wi_27_18) (v := .int ((eb_pJ (eb_pJ (eb_pI (eb_pI (eb_pI σ (13 + s1) 5 s0) (13 + v0) 7 0) (13 + v0) 8 0) (13 + v0) 9 v2) (13 + v0) 10 v4).1 (13 + v0) 2)) (eb_sI (cE_t (by omega) 2)) dX2_begin_87 ?_
  refine lv_aload_n hx hb dX2_begin_90 rfl (lv_at hl 0 rfl) ?_
  refine eb_get (T := TX2) X hw (13 + v0) 4 (by omega) (cE_i (by omega)) (by decide) (fun _ h => List.mem_cons_of_mem _ (inlX2 _ h)) (List.mem_cons_of_mem _ wi_27_22) (v := .int ((eb_pJ (eb_pJ (eb_pI (eb_pI (eb_pI σ (13 + s1) 5 s0) (13 + v0) 7 0) (13 + v0) 8 0) (13 + v0) 9 v2) (13 + v0) 10 v4).1 (13 + v0) 4)) (eb_sI (cE_t (by omega) 4)) dX2_begin_91 ?_
  refine lv_iadd hx hb dX2_begin_94 ?_
  refine lv_i2l (v := (((eb_pJ (eb_pJ (eb_pI (eb_pI (eb_pI σ (13 + s1) 5 s0) (13 + v0) 7 0) (13 + v0) 8 0) (13 + v0) 9 v2) (13 + v0) 10 v4).1 (13 + v0) 2) + ((eb_pJ (eb_pJ (eb_pI (eb_pI (eb_pI σ (13 + s1) 5 s0) (13 + v0) 7 0) (13 + v0) 8 0) (13 + v0) 9 v2) (13 + v0) 10 v4).1 (13 + v0) 4)).toInt64) hx hb dX2_begin_95 rfl ?_
  obtain ⟨z2, qz2⟩ : ∃ t : eb_St, t = m_X7_clear (eb_pJ (eb_pJ (eb_pI (eb_pI (eb_pI σ (13 + s1) 5 s0) (13 + v0) 7 0) (13 + v0) 8 0) (13 + v0) 9 v2) (13 + v0) 10 v4) v0 ((((eb_pJ (eb_pJ (eb_pI (eb_pI (eb_pI σ (13 + s1) 5 s0) (13 + v0) 7 0) (13 + v0) 8 0) (13 + v0) 9 v2) (13 + v0) 10 v4).1 (13 + v0) 2) + ((eb_pJ (eb_pJ (eb_pI (eb_pI (eb_pI σ (13 + s1) 5 s0) (13 + v0) 7 0) (13 + v0) 8 0) (13 + v0) 9 v2) (13 + v0) 10 v4).1 (13 + v0) 4)).toInt64) := ⟨_, rfl⟩
  have hm : z2 = mm := by rw [qz2]; exact hm
  have hc : eb_M l yX7_clear (Cond.code yX7_clear cX7_clear 3 none :: wsL_law) 1 24 D 33 cy cL ad (eb_pJ (eb_pJ (eb_pI (eb_pI (eb_pI σ (13 + s1) 5 s0) (13 + v0) 7 0) (13 + v0) 8 0) (13 + v0) 9 v2) (13 + v0) 10 v4) [.ref (ad (19 + v0)), .long ((((eb_pJ (eb_pJ (eb_pI (eb_pI (eb_pI σ (13 + s1) 5 s0) (13 + v0) 7 0) (13 + v0) 8 0) (13 + v0) 9 v2) (13 + v0) 10 v4).1 (13 + v0) 2) + ((eb_pJ (eb_pJ (eb_pI (eb_pI (eb_pI σ (13 + s1) 5 s0) (13 + v0) 7 0) (13 + v0) 8 0) (13 + v0) 9 v2) (13 + v0) 10 v4).1 (13 + v0) 4)).toInt64)] (none) z2 := by rw [qz2]; exact c_X7_clear l D cy ad (eb_pJ (eb_pJ (eb_pI (eb_pI (eb_pI σ (13 + s1) 5 s0) (13 + v0) 7 0) (13 + v0) 8 0) (13 + v0) 9 v2) (13 + v0) 10 v4) v0 ((((eb_pJ (eb_pJ (eb_pI (eb_pI (eb_pI σ (13 + s1) 5 s0) (13 + v0) 7 0) (13 + v0) 8 0) (13 + v0) 9 v2) (13 + v0) 10 v4).1 (13 + v0) 2) + ((eb_pJ (eb_pJ (eb_pI (eb_pI (eb_pI σ (13 + s1) 5 s0) (13 + v0) 7 0) (13 + v0) 8 0) (13 + v0) 9 v2) (13 + v0) 10 v4).1 (13 + v0) 4)).toInt64) (by omega)
  refine eb_callV (n := 1) (as := [.long ((((eb_pJ (eb_pJ (eb_pI (eb_pI (eb_pI σ (13 + s1) 5 s0) (13 + v0) 7 0) (13 + v0) 8 0) (13 + v0) 9 v2) (13 + v0) 10 v4).1 (13 + v0) 2) + ((eb_pJ (eb_pJ (eb_pI (eb_pI (eb_pI σ (13 + s1) 5 s0) (13 + v0) 7 0) (13 + v0) 8 0) (13 + v0) 9 v2) (13 + v0) 10 v4).1 (13 + v0) 4)).toInt64)]) (rest := []) X hw hl.1 (19 + v0) hc (by omega) (cR_i (by omega)) (eb_goodV wi_28_7 wi_8_23 wi_9_0 wi_2_7 wi_9_1) rfl (by decide +kernel) ⟨by decide, by decide⟩ rfl rfl (Nat.le_of_ble_eq_true rfl) dX2_begin_96 ⟨by decide, by decide⟩ (st' := []) rfl (fun H locs hw => ?_)
  subst hm
  exact eb_vret X hw rfl rfl dX2_begin_99
set_option maxHeartbeats 4000000 in
set_option maxRecDepth 100000 in
theorem c_X2_begin (l : Launch) (D : va_G) (cy : Nat → ClassId) (ad : Nat → Nat) (σ : eb_St) (ee : Nat) (a1 : Int64) (a2 : Int64) (bee : ee < 6) : eb_M l yX2_begin (Cond.code yX2_begin cX2_begin 6 none :: wsL_law) 2 46 D 33 cy cL ad σ [.ref (ad (13 + ee)), .ref (ad 11), .long a1, .long a2] (none) (m_X2_begin σ ee a1 a2) := by
  refine eb_start (own := RX2) (by decide) rfl rfl (Nat.le_of_ble_eq_true rfl) ?_
  intro p e s m args below meth c A ls X hw hl
  have hl : lv_has ls 6 [(0, .ref (ad (13 + ee))), (1, .ref (ad 11)), (2, .long a1), (4, .long a2)] := hl
  have hx := X.1.1
  have hb := X.1.2.1
  have hown := X.1.2.2.2.1
  have hts := X.1.2.2.2.2
  generalize hm : m_X2_begin σ ee a1 a2 = mm
  have hm : (if ((eb_pI (eb_pI (eb_pI (eb_pI (eb_pI σ (13 + ee) 1 1) (13 + ee) 2 ((σ.2 11 0).toInt32)) (13 + ee) 3 ((σ.2 11 1).toInt32)) (13 + ee) 4 ((σ.2 11 4).toInt32)) (13 + ee) 6 ((σ.2 11 6).toInt32)).1 (13 + ee) 6) = 0 then m_X2_begin_58  (eb_pI (eb_pI (eb_pI (eb_pI (eb_pI σ (13 + ee) 1 1) (13 + ee) 2 ((σ.2 11 0).toInt32)) (13 + ee) 3 ((σ.2 11 1).toInt32)) (13 + ee) 4 ((σ.2 11 4).toInt32)) (13 + ee) 6 ((σ.2 11 6).toInt32)) ee a1 a2 0 ee else m_X2_begin_58  (eb_pI (eb_pI (eb_pI (eb_pI (eb_pI σ (13 + ee) 1 1) (13 + ee) 2 ((σ.2 11 0).toInt32)) (13 + ee) 3 ((σ.2 11 1).toInt32)) (13 + ee) 4 ((σ.2 11 4).toInt32)) (13 + ee) 6 ((σ.2 11 6).toInt32)) ee a1 a2 ((σ.2 11 5).toInt32) ee) = mm := hm
  refine lv_aload_n hx hb dX2_begin_0 rfl (lv_at hl 0 rfl) ?_
  refine lv_iconst (v := 1) hx hb dX2_begin_1 (by decide) ?_
  refine eb_putI (T := TX2) X hw (13 + ee) 1 (by omega) (cE_i (by omega)) (by decide) (cE_t (by omega) 1) (fun _ h => List.mem_cons_of_mem _ (inlX2 _ h)) (List.mem_cons_of_mem _ wi_27_16) tyX2 tyX2_ok nmX2 rfl rfl rfl dX2_begin_2 (fun H locs hw => ?_)
  refine lv_aload_n hx hb dX2_begin_5 rfl (lv_at hl 0 rfl) ?_
  refine lv_aload_n hx hb dX2_begin_6 rfl (lv_at hl 1 rfl) ?_
  refine eb_get (T := TX8) X hw 11 0 (by decide) ⟨rfl, rfl, rfl⟩ (by decide) (fun _ h => List.mem_cons_of_mem _ (inlX8 _ h)) (List.mem_cons_of_mem _ wi_27_17) (v := .long (σ.2 11 0)) rfl dX2_begin_7 ?_
  refine lv_l2i (v := (σ.2 11 0).toInt32) hx hb dX2_begin_10 rfl ?_
  refine eb_putI (T := TX2) X hw (13 + ee) 2 (by omega) (cE_i (by omega)) (by decide) (cE_t (by omega) 2) (fun _ h => List.mem_cons_of_mem _ (inlX2 _ h)) (List.mem_cons_of_mem _ wi_27_18) tyX2 tyX2_ok nmX2 rfl rfl rfl dX2_begin_11 (fun H locs hw => ?_)
  refine lv_aload_n hx hb dX2_begin_14 rfl (lv_at hl 0 rfl) ?_
  refine lv_aload_n hx hb dX2_begin_15 rfl (lv_at hl 1 rfl) ?_
  refine eb_get (T := TX8) X hw 11 1 (by decide) ⟨rfl, rfl, rfl⟩ (by decide) (fun _ h => List.mem_cons_of_mem _ (inlX8 _ h)) (List.mem_cons_of_mem _ wi_27_19) (v := .long (σ.2 11 1)) rfl dX2_begin_16 ?_
  refine lv_l2i (v := (σ.2 11 1).toInt32) hx hb dX2_begin_19 rfl ?_
  refine eb_putI (T := TX2) X hw (13 + ee) 3 (by omega) (cE_i (by omega)) (by decide) (cE_t (by omega) 3) (fun _ h => List.mem_cons_of_mem _ (inlX2 _ h)) (List.mem_cons_of_mem _ wi_27_20) tyX2 tyX2_ok nmX2 rfl rfl rfl dX2_begin_20 (fun H locs hw => ?_)
  refine lv_aload_n hx hb dX2_begin_23 rfl (lv_at hl 0 rfl) ?_
  refine lv_aload_n hx hb dX2_begin_24 rfl (lv_at hl 1 rfl) ?_
  refine eb_get (T := TX8) X hw 11 4 (by decide) ⟨rfl, rfl, rfl⟩ (by decide) (fun _ h => List.mem_cons_of_mem _ (inlX8 _ h)) (List.mem_cons_of_mem _ wi_27_21) (v := .long (σ.2 11 4)) rfl dX2_begin_25 ?_
  refine lv_l2i (v := (σ.2 11 4).toInt32) hx hb dX2_begin_28 rfl ?_
  refine eb_putI (T := TX2) X hw (13 + ee) 4 (by omega) (cE_i (by omega)) (by decide) (cE_t (by omega) 4) (fun _ h => List.mem_cons_of_mem _ (inlX2 _ h)) (List.mem_cons_of_mem _ wi_27_22) tyX2 tyX2_ok nmX2 rfl rfl rfl dX2_begin_29 (fun H locs hw => ?_)
  refine lv_aload_n hx hb dX2_begin_32 rfl (lv_at hl 0 rfl) ?_
  refine lv_aload_n hx hb dX2_begin_33 rfl (lv_at hl 1 rfl) ?_
  refine eb_get (T := TX8) X hw 11 6 (by decide) ⟨rfl, rfl, rfl⟩ (by decide) (fun _ h => List.mem_cons_of_mem _ (inlX8 _ h)) (List.mem_cons_of_mem _ wi_27_23) (v := .long (σ.2 11 6)) rfl dX2_begin_34 ?_
  refine lv_l2i (v := (σ.2 11 6).toInt32) hx hb dX2_begin_37 rfl ?_
  refine eb_putI (T := TX2) X hw (13 + ee) 6 (by omega) (cE_i (by omega)) (by decide) (cE_t (by omega) 6) (fun _ h => List.mem_cons_of_mem _ (inlX2 _ h)) (List.mem_cons_of_mem _ wi_28_0) tyX2 tyX2_ok nmX2 rfl rfl rfl dX2_begin_38 (fun H locs hw => ?_)
  refine lv_aload_n hx hb dX2_begin_41 rfl (lv_at hl 0 rfl) ?_
  refine lv_aload_n hx hb dX2_begin_42 rfl (lv_at hl 0 rfl) ?_
  refine eb_get (T := TX2) X hw (13 + ee) 6 (by omega) (cE_i (by omega)) (by decide) (fun _ h => List.mem_cons_of_mem _ (inlX2 _ h)) (List.mem_cons_of_mem _ wi_28_0) (v := .int ((eb_pI (eb_pI (eb_pI (eb_pI (eb_pI σ (13 + ee) 1 1) (13 + ee) 2 ((σ.2 11 0).toInt32)) (13 + ee) 3 ((σ.2 11 1).toInt32)) (13 + ee) 4 ((σ.2 11 4).toInt32)) (13 + ee) 6 ((σ.2 11 6).toInt32)).1 (13 + ee) 6)) (eb_sI (cE_t (by omega) 6)) dX2_begin_43 ?_
  refine lv_if_ne (tgt := 53) hx hb dX2_begin_46 (by decide) (fun h1 => ?_) (fun h1 => ?_)
  · have hm := (if_neg h1).symm.trans hm
    refine lv_aload_n hx hb dX2_begin_53 rfl (lv_at hl 1 rfl) ?_
    refine eb_get (T := TX8) X hw 11 5 (by decide) ⟨rfl, rfl, rfl⟩ (by decide) (fun _ h => List.mem_cons_of_mem _ (inlX8 _ h)) (List.mem_cons_of_mem _ wi_28_1) (v := .long (σ.2 11 5)) rfl dX2_begin_54 ?_
    refine lv_l2i (v := (σ.2 11 5).toInt32) hx hb dX2_begin_57 rfl ?_
    exact k_X2_begin_58 X   (eb_pI (eb_pI (eb_pI (eb_pI (eb_pI σ (13 + ee) 1 1) (13 + ee) 2 ((σ.2 11 0).toInt32)) (13 + ee) 3 ((σ.2 11 1).toInt32)) (13 + ee) 4 ((σ.2 11 4).toInt32)) (13 + ee) 6 ((σ.2 11 6).toInt32)) ee a1 a2 ((σ.2 11 5).toInt32) ee (by omega) (by omega) hm hw (lv_sub hl [0, 2, 3] rfl)
  · have hm := (if_pos h1).symm.trans hm
    refine lv_iconst (v := 0) hx hb dX2_begin_49 (by decide) ?_
    refine lv_goto (tgt := 58) hx hb dX2_begin_50 (by decide) ?_
    exact k_X2_begin_58 X   (eb_pI (eb_pI (eb_pI (eb_pI (eb_pI σ (13 + ee) 1 1) (13 + ee) 2 ((σ.2 11 0).toInt32)) (13 + ee) 3 ((σ.2 11 1).toInt32)) (13 + ee) 4 ((σ.2 11 4).toInt32)) (13 + ee) 6 ((σ.2 11 6).toInt32)) ee a1 a2 0 ee (by omega) (by omega) hm hw (lv_sub hl [0, 2, 3] rfl)

set_option maxHeartbeats 4000000 in
set_option maxRecDepth 100000 in
theorem c_X2_fact (l : Launch) (D : va_G) (cy : Nat → ClassId) (ad : Nat → Nat) (σ : eb_St) (ee : Nat) (a0 : Int32) (bee : ee < 6) : eb_M l yX2_fact (Cond.code yX2_fact cX2_fact 2 (some .int) :: wsL_law) 0 0 D 33 cy cL ad σ [.ref (ad (13 + ee)), .int a0] (some (.int (m_X2_fact σ ee a0))) σ := by
  refine eb_start (own := RX2) (by decide) rfl rfl (Nat.le_of_ble_eq_true rfl) ?_
  intro p e s m args below meth c A ls X hw hl
  have hl : lv_has ls 2 [(0, .ref (ad (13 + ee))), (1, .int a0)] := hl
  have hx := X.1.1
  have hb := X.1.2.1
  have hown := X.1.2.2.2.1
  have hts := X.1.2.2.2.2
  generalize hm : m_X2_fact σ ee a0 = mm
  have hm : (if (σ.1 (13 + ee) 1) = 0 then 0 else (if a0 = 0 then σ.1 (13 + ee) 1 else if a0 = 1 then σ.1 (13 + ee) 2 else if a0 = 2 then σ.1 (13 + ee) 3 else if a0 = 3 then σ.1 (13 + ee) 4 else if a0 = 4 then σ.1 (13 + ee) 5 else if a0 = 5 then σ.1 (13 + ee) 6 else if a0 = 6 then σ.1 (13 + ee) 7 else if a0 = 7 then σ.1 (13 + ee) 8 else 0)) = mm := hm
  refine lv_aload_n hx hb dX2_fact_0 rfl (lv_at hl 0 rfl) ?_
  refine eb_get (T := TX2) X hw (13 + ee) 1 (by omega) (cE_i (by omega)) (by decide) (fun _ h => List.mem_cons_of_mem _ (inlX2 _ h)) (List.mem_cons_of_mem _ wi_27_16) (v := .int (σ.1 (13 + ee) 1)) (eb_sI (cE_t (by omega) 1)) dX2_fact_1 ?_
  refine lv_if_ne (tgt := 9) hx hb dX2_fact_4 (by decide) (fun h1 => ?_) (fun h1 => ?_)
  · have hm := (if_neg h1).symm.trans hm
    refine lv_iload_n hx hb dX2_fact_9 rfl (lv_at hl 1 rfl) ?_
    by_cases h2 : a0 = 0
    · have hm := (if_pos h2).symm.trans hm
      refine lv_tableIn (off := 46) (tgt := 56) hx hb dX2_fact_10 (by rw [h2]; decide) (by rw [h2]; decide) (by rw [h2]; rfl) (by decide) ?_
      refine lv_aload_n hx hb dX2_fact_56 rfl (lv_at hl 0 rfl) ?_
      refine eb_get (T := TX2) X hw (13 + ee) 1 (by omega) (cE_i (by omega)) (by decide) (fun _ h => List.mem_cons_of_mem _ (inlX2 _ h)) (List.mem_cons_of_mem _ wi_27_16) (v := .int (σ.1 (13 + ee) 1)) (eb_sI (cE_t (by omega) 1)) dX2_fact_57 ?_
      subst hm
      exact eb_iret X hw rfl rfl rfl dX2_fact_60
    · have hm := (if_neg h2).symm.trans hm
      by_cases h3 : a0 = 1
      · have hm := (if_pos h3).symm.trans hm
        refine lv_tableIn (off := 51) (tgt := 61) hx hb dX2_fact_10 (by rw [h3]; decide) (by rw [h3]; decide) (by rw [h3]; rfl) (by decide) ?_
        refine lv_aload_n hx hb dX2_fact_61 rfl (lv_at hl 0 rfl) ?_
        refine eb_get (T := TX2) X hw (13 + ee) 2 (by omega) (cE_i (by omega)) (by decide) (fun _ h => List.mem_cons_of_mem _ (inlX2 _ h)) (List.mem_cons_of_mem _ wi_27_18) (v := .int (σ.1 (13 + ee) 2)) (eb_sI (cE_t (by omega) 2)) dX2_fact_62 ?_
        subst hm
        exact eb_iret X hw rfl rfl rfl dX2_fact_65
      · have hm := (if_neg h3).symm.trans hm
        by_cases h4 : a0 = 2
        · have hm := (if_pos h4).symm.trans hm
          refine lv_tableIn (off := 56) (tgt := 66) hx hb dX2_fact_10 (by rw [h4]; decide) (by rw [h4]; decide) (by rw [h4]; rfl) (by decide) ?_
          refine lv_aload_n hx hb dX2_fact_66 rfl (lv_at hl 0 rfl) ?_
          refine eb_get (T := TX2) X hw (13 + ee) 3 (by omega) (cE_i (by omega)) (by decide) (fun _ h => List.mem_cons_of_mem _ (inlX2 _ h)) (List.mem_cons_of_mem _ wi_27_20) (v := .int (σ.1 (13 + ee) 3)) (eb_sI (cE_t (by omega) 3)) dX2_fact_67 ?_
          subst hm
          exact eb_iret X hw rfl rfl rfl dX2_fact_70
        · have hm := (if_neg h4).symm.trans hm
          by_cases h5 : a0 = 3
          · have hm := (if_pos h5).symm.trans hm
            refine lv_tableIn (off := 61) (tgt := 71) hx hb dX2_fact_10 (by rw [h5]; decide) (by rw [h5]; decide) (by rw [h5]; rfl) (by decide) ?_
            refine lv_aload_n hx hb dX2_fact_71 rfl (lv_at hl 0 rfl) ?_
            refine eb_get (T := TX2) X hw (13 + ee) 4 (by omega) (cE_i (by omega)) (by decide) (fun _ h => List.mem_cons_of_mem _ (inlX2 _ h)) (List.mem_cons_of_mem _ wi_27_22) (v := .int (σ.1 (13 + ee) 4)) (eb_sI (cE_t (by omega) 4)) dX2_fact_72 ?_
            subst hm
            exact eb_iret X hw rfl rfl rfl dX2_fact_75
          · have hm := (if_neg h5).symm.trans hm
            by_cases h6 : a0 = 4
            · have hm := (if_pos h6).symm.trans hm
              refine lv_tableIn (off := 66) (tgt := 76) hx hb dX2_fact_10 (by rw [h6]; decide) (by rw [h6]; decide) (by rw [h6]; rfl) (by decide) ?_
              refine lv_aload_n hx hb dX2_fact_76 rfl (lv_at hl 0 rfl) ?_
              refine eb_get (T := TX2) X hw (13 + ee) 5 (by omega) (cE_i (by omega)) (by decide) (fun _ h => List.mem_cons_of_mem _ (inlX2 _ h)) (List.mem_cons_of_mem _ wi_28_2) (v := .int (σ.1 (13 + ee) 5)) (eb_sI (cE_t (by omega) 5)) dX2_fact_77 ?_
              subst hm
              exact eb_iret X hw rfl rfl rfl dX2_fact_80
            · have hm := (if_neg h6).symm.trans hm
              by_cases h7 : a0 = 5
              · have hm := (if_pos h7).symm.trans hm
                refine lv_tableIn (off := 71) (tgt := 81) hx hb dX2_fact_10 (by rw [h7]; decide) (by rw [h7]; decide) (by rw [h7]; rfl) (by decide) ?_
                refine lv_aload_n hx hb dX2_fact_81 rfl (lv_at hl 0 rfl) ?_
                refine eb_get (T := TX2) X hw (13 + ee) 6 (by omega) (cE_i (by omega)) (by decide) (fun _ h => List.mem_cons_of_mem _ (inlX2 _ h)) (List.mem_cons_of_mem _ wi_28_0) (v := .int (σ.1 (13 + ee) 6)) (eb_sI (cE_t (by omega) 6)) dX2_fact_82 ?_
                subst hm
                exact eb_iret X hw rfl rfl rfl dX2_fact_85
              · have hm := (if_neg h7).symm.trans hm
                by_cases h8 : a0 = 6
                · have hm := (if_pos h8).symm.trans hm
                  refine lv_tableIn (off := 76) (tgt := 86) hx hb dX2_fact_10 (by rw [h8]; decide) (by rw [h8]; decide) (by rw [h8]; rfl) (by decide) ?_
                  refine lv_aload_n hx hb dX2_fact_86 rfl (lv_at hl 0 rfl) ?_
                  refine eb_get (T := TX2) X hw (13 + ee) 7 (by omega) (cE_i (by omega)) (by decide) (fun _ h => List.mem_cons_of_mem _ (inlX2 _ h)) (List.mem_cons_of_mem _ wi_28_3) (v := .int (σ.1 (13 + ee) 7)) (eb_sI (cE_t (by omega) 7)) dX2_fact_87 ?_
                  subst hm
                  exact eb_iret X hw rfl rfl rfl dX2_fact_90
                · have hm := (if_neg h8).symm.trans hm
                  by_cases h9 : a0 = 7
                  · have hm := (if_pos h9).symm.trans hm
                    refine lv_tableIn (off := 81) (tgt := 91) hx hb dX2_fact_10 (by rw [h9]; decide) (by rw [h9]; decide) (by rw [h9]; rfl) (by decide) ?_
                    refine lv_aload_n hx hb dX2_fact_91 rfl (lv_at hl 0 rfl) ?_
                    refine eb_get (T := TX2) X hw (13 + ee) 8 (by omega) (cE_i (by omega)) (by decide) (fun _ h => List.mem_cons_of_mem _ (inlX2 _ h)) (List.mem_cons_of_mem _ wi_28_4) (v := .int (σ.1 (13 + ee) 8)) (eb_sI (cE_t (by omega) 8)) dX2_fact_92 ?_
                    subst hm
                    exact eb_iret X hw rfl rfl rfl dX2_fact_95
                  · have hm := (if_neg h9).symm.trans hm
                    refine lv_tableOut (tgt := 96) hx hb dX2_fact_10 (by have qh2 := lv_neT h2 (a := 0) (by decide); have qh3 := lv_neT h3 (a := 1) (by decide); have qh4 := lv_neT h4 (a := 2) (by decide); have qh5 := lv_neT h5 (a := 3) (by decide); have qh6 := lv_neT h6 (a := 4) (by decide); have qh7 := lv_neT h7 (a := 5) (by decide); have qh8 := lv_neT h8 (a := 6) (by decide); have qh9 := lv_neT h9 (a := 7) (by decide); omega) (by decide) ?_
                    refine lv_iconst (v := 0) hx hb dX2_fact_96 (by decide) ?_
                    subst hm
                    exact eb_iret X hw rfl rfl rfl dX2_fact_97
  · have hm := (if_pos h1).symm.trans hm
    refine lv_iconst (v := 0) hx hb dX2_fact_7 (by decide) ?_
    subst hm
    exact eb_iret X hw rfl rfl rfl dX2_fact_8
