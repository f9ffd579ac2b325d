def m_X9_isOpenWord (σ : eb_St) (a0 : Int32) : Bool := (if a0 < 0 then false else (if (65536 : Int32) ≤ a0 then false else (if (a0 &&& 7) = 0 then (fun (z4 : Bool) => (if (eb_b z4) = 0 then true else false)) (m_X5_meetsLiveMemory σ a0.toInt64 8) else false)))

def m_X9_reset (σ : eb_St) (a0 : Int64) : eb_St := (fun (z1 : eb_St) => (fun (z2 : eb_St) => (fun (z3 : eb_St) => (fun (z4 : eb_St) => eb_pJ (eb_pI (eb_pI (eb_pI z4 9 3 3) 0 6 0) 0 7 (-1)) 0 8 0) (m_X7_clear z3 6 a0)) (m_X1_clear z2)) (m_X6_clear z1)) (m_X5_forgetAll σ)

def m_X9_poke (σ : eb_St) (a0 : Int32) (a1 : Int64) : Bool × eb_St := (fun (z1 : Bool) => (if (eb_b z1) = 0 then (false, σ) else (fun (z3 : eb_St) => (true, z3)) (m_X4_store σ a0 8 a1))) (m_X9_isOpenWord σ a0)

def m_X9_peek (σ : eb_St) (a0 : Int32) : Int64 := (fun (z1 : Bool) => (if (eb_b z1) = 0 then 0 else (fun (z3 : Int64) => z3) (m_X4_load σ a0 8))) (m_X9_isOpenWord σ a0)

def m_X9_interrupt (σ : eb_St)  : eb_St := eb_pI σ 10 9 1

def m_X9_halt (σ : eb_St) (a0 : Int32) : eb_St := (if (σ.1 9 3) = 3 then (fun (z2 : eb_St) => z2) (m_X1_trap (eb_pI (eb_pI (eb_pJ (eb_pI σ 0 7 a0) 0 8 (σ.2 9 4)) 0 6 1) 0 6 2) (σ.2 25 1) a0 (σ.2 9 4)) else eb_pI (eb_pJ (eb_pI σ 0 7 a0) 0 8 (σ.2 9 4)) 0 6 1)

def m_X9_settle_76  (σ : eb_St) (v1 : Int32) : eb_St := (if v1 = (-1) then σ else (fun (z7 : eb_St) => z7) (m_X9_halt σ v1))
def m_X9_settle (σ : eb_St) (a0 : Int32) : eb_St := (if (σ.1 10 6) = (-1) then (if a0 = 11 then (if (σ.1 9 3) = 0 then (fun (z4 : eb_St) => eb_pJ z4 25 1 ((z4.2 25 1) + 4)) (m_X5_answerHost (eb_pI σ 8 6 ((σ.1 8 6) + 1))) else m_X9_settle_76  (eb_pI σ 8 6 ((σ.1 8 6) + 1)) a0) else m_X9_settle_76  (eb_pI σ 8 6 ((σ.1 8 6) + 1)) a0) else (fun (z5 : eb_St) => z5) (m_X5_settleStay (eb_pI σ 8 6 ((σ.1 8 6) + 1)) a0))

def m_X9_run_16  : Nat → eb_St → Int32 → Int32 → Int32 × eb_St
  | 0, σ, _, _ => (0, σ)
  | n + 1, σ, v1, v2 => (if v1 ≤ v2 then (v2, σ) else (if (σ.1 0 6) = 0 then (fun (z5 : eb_St) => (fun (z6 : Nat) => (fun (z7 : Int32 × eb_St) => (fun (z8 : eb_St) => (fun (x9 : Int32) => m_X9_run_16  n z8 v1 x9) (v2 + 1)) (m_X9_settle z7.2 z7.1)) (m_X3_execute z5 z6)) (m_X5_whoRuns z5)) (m_X5_takeInterrupt σ) else (v2, σ)))
def m_X9_run (σ : eb_St) (a0 : Int32) : Int32 × eb_St := (if a0 < 1 then ((-1), σ) else (if a0 ≤ 5000 then m_X9_run_16  ((a0.toInt - (0 : Int32).toInt).toNat + 1) σ a0 0 else ((-1), σ)))

def m_X9_register (σ : eb_St) (a0 : Int32) : Int64 := (if a0 < 0 then 0 else (if a0 ≤ 31 then (fun (z3 : Int64) => z3) (m_X7_get σ 6 a0) else 0))

def m_X9_state (σ : eb_St) (a0 : Int32) : Int32 := (if a0 = 0 then σ.1 9 3 else if a0 = 1 then σ.1 0 6 else if a0 = 2 then σ.1 10 6 else if a0 = 3 then σ.1 0 7 else if a0 = 4 then σ.1 8 6 else if a0 = 5 then σ.1 10 10 else if a0 = 6 then σ.1 10 11 else if a0 = 7 then σ.1 10 12 else if a0 = 8 then σ.1 10 13 else (-1))

def m_X9_held (σ : eb_St) (a0 : Int32) : Int64 := (if a0 = 0 then σ.2 25 1 else if a0 = 1 then σ.2 0 8 else if a0 = 2 then (fun (z4 : Int64) => z4) (m_X1_mstatus σ) else if a0 = 3 then σ.2 8 2 else if a0 = 4 then σ.2 8 3 else if a0 = 5 then σ.2 8 4 else if a0 = 6 then σ.2 8 5 else 0)

def m_X9_pmp (σ : eb_St) (a0 : Int32) (a1 : Int32) : Int64 := (if a0 < 0 then 0 else (if a0 < 16 then (if a1 = 0 then (σ.1 4 a0.toNatClampNeg).toInt64 else if a1 = 1 then σ.2 5 a0.toNatClampNeg else 0) else 0))

def m_X9_enclave (σ : eb_St) (a0 : Int32) (a1 : Int32) : Int32 := (if a0 < 0 then 0 else (if a0 < 6 then (fun (z4 : Int32) => z4) (m_X2_fact σ a0.toNatClampNeg a1) else 0))

def m_X9_eye (σ : eb_St) (a0 : Int32) (a1 : Int32) : Int64 := (if a0 < 0 then 0 else (if (6 : Int32) ≤ a0 then 0 else (if 0 ≤ a1 then (if (σ.1 (13 + a0.toNatClampNeg) 1) = 0 then 0 else (if (32 : Int32) ≤ a1 then (if a1 = 32 then σ.2 (19 + a0.toNatClampNeg) 1 else if a1 = 33 then σ.2 (13 + a0.toNatClampNeg) 9 else if a1 = 34 then σ.2 (13 + a0.toNatClampNeg) 10 else (fun (x10 : Int32) => (if ((σ.1 (13 + a0.toNatClampNeg) 3) / 8) ≤ x10 then 0 else (fun (z12 : Int64) => z12) (m_X4_load σ ((σ.1 (13 + a0.toNatClampNeg) 2) + (8 * x10)) 8))) (a1 - 35)) else (fun (z13 : Int64) => z13) (m_X7_get σ a0.toNatClampNeg a1))) else 0)))
set_option maxHeartbeats 4000000 in
set_option maxRecDepth 100000 in
theorem c_X9_isOpenWord (l : Launch) (D : va_G) (cy : Nat → ClassId) (ad : Nat → Nat) (σ : eb_St) (a0 : Int32)  : eb_M l yX9_isOpenWord (Cond.code yX9_isOpenWord cX9_isOpenWord 2 (some .boolean) :: wsL_law) 2 53 D 33 cy cL ad σ [.ref (ad 0), .int a0] (some (.int (eb_b (m_X9_isOpenWord σ a0)))) σ := by
  refine eb_start (own := RX9) (by decide) rfl rfl (Nat.le_of_ble_eq_true rfl) ?_
  intro p e s m args below meth c A ls X hw hl
  have hl : lv_has ls 2 [(0, .ref (ad 0)), (1, .int a0)] := hl
  have hx := X.1.1
  have hb := X.1.2.1
  have hown := X.1.2.2.2.1
  have hts := X.1.2.2.2.2
  generalize hm : m_X9_isOpenWord σ a0 = mm
  have hm : (if a0 < 0 then false else (if (65536 : Int32) ≤ a0 then false else (if (a0 &&& 7) = 0 then (fun (z4 : Bool) => (if (eb_b z4) = 0 then true else false)) (m_X5_meetsLiveMemory σ a0.toInt64 8) else false))) = mm := hm
  refine lv_iload_n hx hb dX9_isOpenWord_0 rfl (lv_at hl 1 rfl) ?_
  refine lv_if_lt (tgt := 36) hx hb dX9_isOpenWord_1 (by decide) (fun h1 => ?_) (fun h1 => ?_)
  · have hm := (if_pos h1).symm.trans hm
    refine lv_iconst (v := 0) hx hb dX9_isOpenWord_36 (by decide) ?_
    subst hm
    exact eb_zret X hw rfl rfl rfl rfl dX9_isOpenWord_37
  · have hm := (if_neg h1).symm.trans hm
    refine lv_iload_n hx hb dX9_isOpenWord_4 rfl (lv_at hl 1 rfl) ?_
    refine lv_ldc hx hb hown (hts _ (List.mem_cons_of_mem _ wi_10_14)) dX9_isOpenWord_5 ?_
    refine lv_icmp_ge (tgt := 36) hx hb dX9_isOpenWord_7 (by decide) (fun h2 => ?_) (fun h2 => ?_)
    · have hm := (if_pos h2).symm.trans hm
      refine lv_iconst (v := 0) hx hb dX9_isOpenWord_36 (by decide) ?_
      subst hm
      exact eb_zret X hw rfl rfl rfl rfl dX9_isOpenWord_37
    · have hm := (if_neg h2).symm.trans hm
      refine lv_iload_n hx hb dX9_isOpenWord_10 rfl (lv_at hl 1 rfl) ?_
      refine lv_bipush (v := 7) hx hb dX9_isOpenWord_11 (by decide) ?_
      refine lv_iand hx hb dX9_isOpenWord_13 ?_
      refine lv_if_ne (tgt := 36) hx hb dX9_isOpenWord_14 (by decide) (fun h3 => ?_) (fun h3 => ?_)
      · have hm := (if_neg h3).symm.trans hm
        refine lv_iconst (v := 0) hx hb dX9_isOpenWord_36 (by decide) ?_
        subst hm
        exact eb_zret X hw rfl rfl rfl rfl dX9_isOpenWord_37
      · have hm := (if_pos h3).symm.trans hm
        refine lv_aload_n hx hb dX9_isOpenWord_17 rfl (lv_at hl 0 rfl) ?_
        refine eb_get (T := TX9) X hw 0 5 (by decide) ⟨rfl, rfl, rfl⟩ (by decide) (fun _ h => List.mem_cons_of_mem _ (inlX9 _ h)) (List.mem_cons_of_mem _ wi_2_16) (v := .ref (ad 10)) rfl dX9_isOpenWord_18 ?_
        refine lv_iload_n hx hb dX9_isOpenWord_21 rfl (lv_at hl 1 rfl) ?_
        refine lv_i2l (v := a0.toInt64) hx hb dX9_isOpenWord_22 rfl ?_
        refine lv_ldc2 hx hb hown (hts _ (List.mem_cons_of_mem _ wi_10_15)) dX9_isOpenWord_23 ?_
        obtain ⟨z4, qz4⟩ : ∃ t : Bool, t = m_X5_meetsLiveMemory σ a0.toInt64 8 := ⟨_, rfl⟩
        have hm : (if (eb_b z4) = 0 then true else false) = mm := by rw [qz4]; exact hm
        have hc : eb_M l yX5_meetsLiveMemory (Cond.code yX5_meetsLiveMemory cX5_meetsLiveMemory 7 (some .boolean) :: wsL_law) 1 27 D 33 cy cL ad σ [.ref (ad 10), .long a0.toInt64, .long 8] (some (.int (eb_b z4))) σ := by rw [qz4]; exact c_X5_meetsLiveMemory l D cy ad σ a0.toInt64 8
        refine eb_callV (n := 2) (as := [.long a0.toInt64, .long 8]) (rest := []) X hw hl.1 10 hc (by decide) ⟨rfl, rfl, rfl⟩ (eb_goodV wi_10_16 wi_10_17 wi_10_18 wi_2_15 wi_10_19) rfl (by decide +kernel) ⟨by decide, by decide⟩ rfl rfl (Nat.le_of_ble_eq_true rfl) dX9_isOpenWord_26 ⟨by decide, by decide⟩ (st' := [.int (eb_b z4)]) rfl (fun H locs hw => ?_)
        refine lv_if_ne (tgt := 36) hx hb dX9_isOpenWord_29 (by decide) (fun h5 => ?_) (fun h5 => ?_)
        · have hm := (if_neg h5).symm.trans hm
          refine lv_iconst (v := 0) hx hb dX9_isOpenWord_36 (by decide) ?_
          subst hm
          exact eb_zret X hw rfl rfl rfl rfl dX9_isOpenWord_37
        · have hm := (if_pos h5).symm.trans hm
          refine lv_iconst (v := 1) hx hb dX9_isOpenWord_32 (by decide) ?_
          refine lv_goto (tgt := 37) hx hb dX9_isOpenWord_33 (by decide) ?_
          subst hm
          exact eb_zret X hw rfl rfl rfl rfl dX9_isOpenWord_37

set_option maxHeartbeats 4000000 in
set_option maxRecDepth 100000 in
theorem c_X9_reset (l : Launch) (D : va_G) (cy : Nat → ClassId) (ad : Nat → Nat) (σ : eb_St) (a0 : Int64)  : eb_M l yX9_reset (Cond.code yX9_reset cX9_reset 3 none :: wsL_law) 5 112 D 33 cy cL ad σ [.ref (ad 0), .long a0] (none) (m_X9_reset σ a0) := by
  refine eb_start (own := RX9) (by decide) rfl rfl (Nat.le_of_ble_eq_true rfl) ?_
  intro p e s m args below meth c A ls X hw hl
  have hl : lv_has ls 3 [(0, .ref (ad 0)), (1, .long a0)] := hl
  have hx := X.1.1
  have hb := X.1.2.1
  have hown := X.1.2.2.2.1
  have hts := X.1.2.2.2.2
  generalize hm : m_X9_reset σ a0 = mm
  have hm : (fun (z1 : eb_St) => (fun (z2 : eb_St) => (fun (z3 : eb_St) => (fun (z4 : eb_St) => eb_pJ (eb_pI (eb_pI (eb_pI z4 9 3 3) 0 6 0) 0 7 (-1)) 0 8 0) (m_X7_clear z3 6 a0)) (m_X1_clear z2)) (m_X6_clear z1)) (m_X5_forgetAll σ) = mm := hm
  refine lv_aload_n hx hb dX9_reset_0 rfl (lv_at hl 0 rfl) ?_
  refine eb_get (T := TX9) X hw 0 5 (by decide) ⟨rfl, rfl, rfl⟩ (by decide) (fun _ h => List.mem_cons_of_mem _ (inlX9 _ h)) (List.mem_cons_of_mem _ wi_2_16) (v := .ref (ad 10)) rfl dX9_reset_1 ?_
  obtain ⟨z1, qz1⟩ : ∃ t : eb_St, t = m_X5_forgetAll σ := ⟨_, rfl⟩
  have hm : (fun (z2 : eb_St) => (fun (z3 : eb_St) => (fun (z4 : eb_St) => eb_pJ (eb_pI (eb_pI (eb_pI z4 9 3 3) 0 6 0) 0 7 (-1)) 0 8 0) (m_X7_clear z3 6 a0)) (m_X1_clear z2)) (m_X6_clear z1) = mm := by rw [qz1]; exact hm
  have hc : eb_M l yX5_forgetAll (Cond.code yX5_forgetAll cX5_forgetAll 2 none :: wsL_law) 4 91 D 33 cy cL ad σ [.ref (ad 10)] (none) z1 := by rw [qz1]; exact c_X5_forgetAll l D cy ad σ 
  refine eb_callV (n := 0) (as := []) (rest := []) X hw hl.1 10 hc (by decide) ⟨rfl, rfl, rfl⟩ (eb_goodV wi_6_11 wi_6_12 wi_6_13 wi_2_15 wi_6_14) rfl (by decide +kernel) ⟨by decide, by decide⟩ rfl rfl (Nat.le_of_ble_eq_true rfl) dX9_reset_4 ⟨by decide, by decide⟩ (st' := []) rfl (fun H locs hw => ?_)
  refine lv_aload_n hx hb dX9_reset_7 rfl (lv_at hl 0 rfl) ?_
  refine eb_get (T := TX9) X hw 0 1 (by decide) ⟨rfl, rfl, rfl⟩ (by decide) (fun _ h => List.mem_cons_of_mem _ (inlX9 _ h)) (List.mem_cons_of_mem _ wi_2_0) (v := .ref (ad 3)) rfl dX9_reset_8 ?_
  obtain ⟨z2, qz2⟩ : ∃ t : eb_St, t = m_X6_clear z1 := ⟨_, rfl⟩
  have hm : (fun (z3 : eb_St) => (fun (z4 : eb_St) => eb_pJ (eb_pI (eb_pI (eb_pI z4 9 3 3) 0 6 0) 0 7 (-1)) 0 8 0) (m_X7_clear z3 6 a0)) (m_X1_clear z2) = mm := by rw [qz2]; exact hm
  have hc : eb_M l yX6_clear (Cond.code yX6_clear cX6_clear 1 none :: wsL_law) 1 24 D 33 cy cL ad z1 [.ref (ad 3)] (none) z2 := by rw [qz2]; exact c_X6_clear l D cy ad z1 
  refine eb_callV (n := 0) (as := []) (rest := []) X hw hl.1 3 hc (by decide) ⟨rfl, rfl, rfl⟩ (eb_goodV wi_8_2 wi_8_3 wi_8_4 wi_1_23 wi_8_5) rfl (by decide +kernel) ⟨by decide, by decide⟩ rfl rfl (Nat.le_of_ble_eq_true rfl) dX9_reset_11 ⟨by decide, by decide⟩ (st' := []) rfl (fun H locs hw => ?_)
  refine lv_aload_n hx hb dX9_reset_14 rfl (lv_at hl 0 rfl) ?_
  refine eb_get (T := TX9) X hw 0 2 (by decide) ⟨rfl, rfl, rfl⟩ (by decide) (fun _ h => List.mem_cons_of_mem _ (inlX9 _ h)) (List.mem_cons_of_mem _ wi_2_4) (v := .ref (ad 8)) rfl dX9_reset_15 ?_
  obtain ⟨z3, qz3⟩ : ∃ t : eb_St, t = m_X1_clear z2 := ⟨_, rfl⟩
  have hm : (fun (z4 : eb_St) => eb_pJ (eb_pI (eb_pI (eb_pI z4 9 3 3) 0 6 0) 0 7 (-1)) 0 8 0) (m_X7_clear z3 6 a0) = mm := by rw [qz3]; exact hm
  have hc : eb_M l yX1_clear (Cond.code yX1_clear cX1_clear 1 none :: wsL_law) 0 0 D 33 cy cL ad z2 [.ref (ad 8)] (none) z3 := by rw [qz3]; exact c_X1_clear l D cy ad z2 
  refine eb_callV (n := 0) (as := []) (rest := []) X hw hl.1 8 hc (by decide) ⟨rfl, rfl, rfl⟩ (eb_goodV wi_8_12 wi_8_13 wi_8_14 wi_2_3 wi_8_15) rfl (by decide +kernel) ⟨by decide, by decide⟩ rfl rfl (Nat.le_of_ble_eq_true rfl) dX9_reset_18 ⟨by decide, by decide⟩ (st' := []) rfl (fun H locs hw => ?_)
  refine lv_aload_n hx hb dX9_reset_21 rfl (lv_at hl 0 rfl) ?_
  refine eb_get (T := TX9) X hw 0 3 (by decide) ⟨rfl, rfl, rfl⟩ (by decide) (fun _ h => List.mem_cons_of_mem _ (inlX9 _ h)) (List.mem_cons_of_mem _ wi_2_8) (v := .ref (ad 25)) rfl dX9_reset_22 ?_
  refine lv_lload_n hx hb dX9_reset_25 rfl (lv_at hl 1 rfl) ?_
  obtain ⟨z4, qz4⟩ : ∃ t : eb_St, t = m_X7_clear z3 6 a0 := ⟨_, rfl⟩
  have hm : eb_pJ (eb_pI (eb_pI (eb_pI z4 9 3 3) 0 6 0) 0 7 (-1)) 0 8 0 = mm := by rw [qz4]; exact hm
  have hc : eb_M l yX7_clear (Cond.code yX7_clear cX7_clear 3 none :: wsL_law) 1 24 D 33 cy cL ad z3 [.ref (ad 25), .long a0] (none) z4 := by rw [qz4]; exact c_X7_clear l D cy ad z3 6 a0 (by decide)
  refine eb_callV (n := 1) (as := [.long a0]) (rest := []) X hw hl.1 25 hc (by decide) ⟨rfl, rfl, rfl⟩ (eb_goodV wi_8_22 wi_8_23 wi_9_0 wi_2_7 wi_9_1) rfl (by decide +kernel) ⟨by decide, by decide⟩ rfl rfl (Nat.le_of_ble_eq_true rfl) dX9_reset_26 ⟨by decide, by decide⟩ (st' := []) rfl (fun H locs hw => ?_)
  refine lv_aload_n hx hb dX9_reset_29 rfl (lv_at hl 0 rfl) ?_
  refine eb_get (T := TX9) X hw 0 4 (by decide) ⟨rfl, rfl, rfl⟩ (by decide) (fun _ h => List.mem_cons_of_mem _ (inlX9 _ h)) (List.mem_cons_of_mem _ wi_2_12) (v := .ref (ad 9)) rfl dX9_reset_30 ?_
  refine lv_iconst (v := 3) hx hb dX9_reset_33 (by decide) ?_
  refine eb_putI (T := TX3) X hw 9 3 (by decide) ⟨rfl, rfl, rfl⟩ (by decide) rfl (fun _ h => List.mem_cons_of_mem _ (inlX3 _ h)) (List.mem_cons_of_mem _ wi_6_9) tyX3 tyX3_ok nmX3 rfl rfl rfl dX9_reset_34 (fun H locs hw => ?_)
  refine lv_aload_n hx hb dX9_reset_37 rfl (lv_at hl 0 rfl) ?_
  refine lv_iconst (v := 0) hx hb dX9_reset_38 (by decide) ?_
  refine eb_putI (T := TX9) X hw 0 6 (by decide) ⟨rfl, rfl, rfl⟩ (by decide) rfl (fun _ h => List.mem_cons_of_mem _ (inlX9 _ h)) (List.mem_cons_of_mem _ wi_2_17) tyX9 tyX9_ok nmX9 rfl rfl rfl dX9_reset_39 (fun H locs hw => ?_)
  refine lv_aload_n hx hb dX9_reset_42 rfl (lv_at hl 0 rfl) ?_
  refine lv_iconst (v := (-1)) hx hb dX9_reset_43 (by decide) ?_
  refine eb_putI (T := TX9) X hw 0 7 (by decide) ⟨rfl, rfl, rfl⟩ (by decide) rfl (fun _ h => List.mem_cons_of_mem _ (inlX9 _ h)) (List.mem_cons_of_mem _ wi_2_18) tyX9 tyX9_ok nmX9 rfl rfl rfl dX9_reset_44 (fun H locs hw => ?_)
  refine lv_aload_n hx hb dX9_reset_47 rfl (lv_at hl 0 rfl) ?_
  refine lv_lconst (v := 0) hx hb dX9_reset_48 (by decide) ?_
  refine eb_putJ (T := TX9) X hw 0 8 (by decide) ⟨rfl, rfl, rfl⟩ (by decide) rfl (fun _ h => List.mem_cons_of_mem _ (inlX9 _ h)) (List.mem_cons_of_mem _ wi_6_10) tyX9 tyX9_ok nmX9 rfl rfl rfl dX9_reset_49 (fun H locs hw => ?_)
  subst hm
  exact eb_vret X hw rfl rfl dX9_reset_52

set_option maxHeartbeats 4000000 in
set_option maxRecDepth 100000 in
theorem c_X9_poke (l : Launch) (D : va_G) (cy : Nat → ClassId) (ad : Nat → Nat) (σ : eb_St) (a0 : Int32) (a1 : Int64)  : eb_M l yX9_poke (Cond.code yX9_poke cX9_poke 4 (some .boolean) :: wsL_law) 3 74 D 33 cy cL ad σ [.ref (ad 0), .int a0, .long a1] (some (.int (eb_b (m_X9_poke σ a0 a1).1))) ((m_X9_poke σ a0 a1).2) := by
  refine eb_start (own := RX9) (by decide) rfl rfl (Nat.le_of_ble_eq_true rfl) ?_
  intro p e s m args below meth c A ls X hw hl
  have hl : lv_has ls 4 [(0, .ref (ad 0)), (1, .int a0), (2, .long a1)] := hl
  have hx := X.1.1
  have hb := X.1.2.1
  have hown := X.1.2.2.2.1
  have hts := X.1.2.2.2.2
  generalize hm : m_X9_poke σ a0 a1 = mm
  have hm : (fun (z1 : Bool) => (if (eb_b z1) = 0 then (false, σ) else (fun (z3 : eb_St) => (true, z3)) (m_X4_store σ a0 8 a1))) (m_X9_isOpenWord σ a0) = mm := hm
  refine lv_aload_n hx hb dX9_poke_0 rfl (lv_at hl 0 rfl) ?_
  refine lv_iload_n hx hb dX9_poke_1 rfl (lv_at hl 1 rfl) ?_
  obtain ⟨z1, qz1⟩ : ∃ t : Bool, t = m_X9_isOpenWord σ a0 := ⟨_, rfl⟩
  have hm : (if (eb_b z1) = 0 then (false, σ) else (fun (z3 : eb_St) => (true, z3)) (m_X4_store σ a0 8 a1)) = mm := by rw [qz1]; exact hm
  have hc : eb_M l yX9_isOpenWord (Cond.code yX9_isOpenWord cX9_isOpenWord 2 (some .boolean) :: wsL_law) 2 53 D 33 cy cL ad σ [.ref (ad 0), .int a0] (some (.int (eb_b z1))) σ := by rw [qz1]; exact c_X9_isOpenWord l D cy ad σ a0
  refine eb_callV (n := 1) (as := [.int a0]) (rest := []) X hw hl.1 0 hc (by decide) ⟨rfl, rfl, rfl⟩ (eb_goodV wi_10_10 wi_10_11 wi_10_12 wi_1_2 wi_10_13) rfl (by decide +kernel) ⟨by decide, by decide⟩ rfl rfl (Nat.le_of_ble_eq_true rfl) dX9_poke_2 ⟨by decide, by decide⟩ (st' := [.int (eb_b z1)]) rfl (fun H locs hw => ?_)
  refine lv_if_ne (tgt := 10) hx hb dX9_poke_5 (by decide) (fun h2 => ?_) (fun h2 => ?_)
  · have hm := (if_neg h2).symm.trans hm
    refine lv_aload_n hx hb dX9_poke_10 rfl (lv_at hl 0 rfl) ?_
    refine eb_get (T := TX9) X hw 0 0 (by decide) ⟨rfl, rfl, rfl⟩ (by decide) (fun _ h => List.mem_cons_of_mem _ (inlX9 _ h)) (List.mem_cons_of_mem _ wi_1_20) (v := .ref (ad 1)) rfl dX9_poke_11 ?_
    refine lv_iload_n hx hb dX9_poke_14 rfl (lv_at hl 1 rfl) ?_
    refine lv_bipush (v := 8) hx hb dX9_poke_15 (by decide) ?_
    refine lv_lload_n hx hb dX9_poke_17 rfl (lv_at hl 2 rfl) ?_
    obtain ⟨z3, qz3⟩ : ∃ t : eb_St, t = m_X4_store σ a0 8 a1 := ⟨_, rfl⟩
    have hm : (true, z3) = mm := by rw [qz3]; exact hm
    have hc : eb_M l yX4_store (Cond.code yX4_store cX4_store 8 none :: wsL_law) 1 20 D 33 cy cL ad σ [.ref (ad 1), .int a0, .int 8, .long a1] (none) z3 := by rw [qz3]; exact c_X4_store l D cy ad σ a0 8 a1
    refine eb_callV (n := 3) (as := [.int a0, .int 8, .long a1]) (rest := []) X hw hl.1 1 hc (by decide) ⟨rfl, rfl, rfl⟩ (eb_goodV wi_10_23 wi_7_9 wi_7_10 wi_1_19 wi_7_11) rfl (by decide +kernel) ⟨by decide, by decide⟩ rfl rfl (Nat.le_of_ble_eq_true rfl) dX9_poke_18 ⟨by decide, by decide⟩ (st' := []) rfl (fun H locs hw => ?_)
    refine lv_iconst (v := 1) hx hb dX9_poke_21 (by decide) ?_
    subst hm
    exact eb_zret X hw rfl rfl rfl rfl dX9_poke_22
  · have hm := (if_pos h2).symm.trans hm
    refine lv_iconst (v := 0) hx hb dX9_poke_8 (by decide) ?_
    subst hm
    exact eb_zret X hw rfl rfl rfl rfl dX9_poke_9

set_option maxHeartbeats 4000000 in
set_option maxRecDepth 100000 in
theorem c_X9_peek (l : Launch) (D : va_G) (cy : Nat → ClassId) (ad : Nat → Nat) (σ : eb_St) (a0 : Int32)  : eb_M l yX9_peek (Cond.code yX9_peek cX9_peek 2 (some .long) :: wsL_law) 3 74 D 33 cy cL ad σ [.ref (ad 0), .int a0] (some (.long (m_X9_peek σ a0))) σ := by
  refine eb_start (own := RX9) (by decide) rfl rfl (Nat.le_of_ble_eq_true rfl) ?_
  intro p e s m args below meth c A ls X hw hl
  have hl : lv_has ls 2 [(0, .ref (ad 0)), (1, .int a0)] := hl
  have hx := X.1.1
  have hb := X.1.2.1
  have hown := X.1.2.2.2.1
  have hts := X.1.2.2.2.2
  generalize hm : m_X9_peek σ a0 = mm
  have hm : (fun (z1 : Bool) => (if (eb_b z1) = 0 then 0 else (fun (z3 : Int64) => z3) (m_X4_load σ a0 8))) (m_X9_isOpenWord σ a0) = mm := hm
  refine lv_aload_n hx hb dX9_peek_0 rfl (lv_at hl 0 rfl) ?_
  refine lv_iload_n hx hb dX9_peek_1 rfl (lv_at hl 1 rfl) ?_
  obtain ⟨z1, qz1⟩ : ∃ t : Bool, t = m_X9_isOpenWord σ a0 := ⟨_, rfl⟩
  have hm : (if (eb_b z1) = 0 then 0 else (fun (z3 : Int64) => z3) (m_X4_load σ a0 8)) = mm := by rw [qz1]; exact hm
  have hc : eb_M l yX9_isOpenWord (Cond.code yX9_isOpenWord cX9_isOpenWord 2 (some .boolean) :: wsL_law) 2 53 D 33 cy cL ad σ [.ref (ad 0), .int a0] (some (.int (eb_b z1))) σ := by rw [qz1]; exact c_X9_isOpenWord l D cy ad σ a0
  refine eb_callV (n := 1) (as := [.int a0]) (rest := []) X hw hl.1 0 hc (by decide) ⟨rfl, rfl, rfl⟩ (eb_goodV wi_10_10 wi_10_11 wi_10_12 wi_1_2 wi_10_13) rfl (by decide +kernel) ⟨by decide, by decide⟩ rfl rfl (Nat.le_of_ble_eq_true rfl) dX9_peek_2 ⟨by decide, by decide⟩ (st' := [.int (eb_b z1)]) rfl (fun H locs hw => ?_)
  refine lv_if_eq (tgt := 21) hx hb dX9_peek_5 (by decide) (fun h2 => ?_) (fun h2 => ?_)
  · have hm := (if_pos h2).symm.trans hm
    refine lv_lconst (v := 0) hx hb dX9_peek_21 (by decide) ?_
    subst hm
    exact eb_lret X hw rfl rfl rfl dX9_peek_22
  · have hm := (if_neg h2).symm.trans hm
    refine lv_aload_n hx hb dX9_peek_8 rfl (lv_at hl 0 rfl) ?_
    refine eb_get (T := TX9) X hw 0 0 (by decide) ⟨rfl, rfl, rfl⟩ (by decide) (fun _ h => List.mem_cons_of_mem _ (inlX9 _ h)) (List.mem_cons_of_mem _ wi_1_20) (v := .ref (ad 1)) rfl dX9_peek_9 ?_
    refine lv_iload_n hx hb dX9_peek_12 rfl (lv_at hl 1 rfl) ?_
    refine lv_bipush (v := 8) hx hb dX9_peek_13 (by decide) ?_
    obtain ⟨z3, qz3⟩ : ∃ t : Int64, t = m_X4_load σ a0 8 := ⟨_, rfl⟩
    have hm : z3 = mm := by rw [qz3]; exact hm
    have hc : eb_M l yX4_load (Cond.code yX4_load cX4_load 3 (some .long) :: wsL_law) 1 20 D 33 cy cL ad σ [.ref (ad 1), .int a0, .int 8] (some (.long z3)) σ := by rw [qz3]; exact c_X4_load l D cy ad σ a0 8
    refine eb_callV (n := 2) (as := [.int a0, .int 8]) (rest := []) X hw hl.1 1 hc (by decide) ⟨rfl, rfl, rfl⟩ (eb_goodV wi_11_16 wi_11_17 wi_11_18 wi_1_19 wi_11_19) rfl (by decide +kernel) ⟨by decide, by decide⟩ rfl rfl (Nat.le_of_ble_eq_true rfl) dX9_peek_15 ⟨by decide, by decide⟩ (st' := [.long z3]) rfl (fun H locs hw => ?_)
    refine lv_goto (tgt := 22) hx hb dX9_peek_18 (by decide) ?_
    subst hm
    exact eb_lret X hw rfl rfl rfl dX9_peek_22

set_option maxHeartbeats 4000000 in
set_option maxRecDepth 100000 in
theorem c_X9_interrupt (l : Launch) (D : va_G) (cy : Nat → ClassId) (ad : Nat → Nat) (σ : eb_St)   : eb_M l yX9_interrupt (Cond.code yX9_interrupt cX9_interrupt 1 none :: wsL_law) 0 0 D 33 cy cL ad σ [.ref (ad 0)] (none) (m_X9_interrupt σ) := by
  refine eb_start (own := RX9) (by decide) rfl rfl (Nat.le_of_ble_eq_true rfl) ?_
  intro p e s m args below meth c A ls X hw hl
  have hl : lv_has ls 1 [(0, .ref (ad 0))] := hl
  have hx := X.1.1
  have hb := X.1.2.1
  have hown := X.1.2.2.2.1
  have hts := X.1.2.2.2.2
  generalize hm : m_X9_interrupt σ = mm
  have hm : eb_pI σ 10 9 1 = mm := hm
  refine lv_aload_n hx hb dX9_interrupt_0 rfl (lv_at hl 0 rfl) ?_
  refine eb_get (T := TX9) X hw 0 5 (by decide) ⟨rfl, rfl, rfl⟩ (by decide) (fun _ h => List.mem_cons_of_mem _ (inlX9 _ h)) (List.mem_cons_of_mem _ wi_2_16) (v := .ref (ad 10)) rfl dX9_interrupt_1 ?_
  refine lv_iconst (v := 1) hx hb dX9_interrupt_4 (by decide) ?_
  refine eb_putI (T := TX5) X hw 10 9 (by decide) ⟨rfl, rfl, rfl⟩ (by decide) rfl (fun _ h => List.mem_cons_of_mem _ (inlX5 _ h)) (List.mem_cons_of_mem _ wi_12_8) tyX5 tyX5_ok nmX5 rfl rfl rfl dX9_interrupt_5 (fun H locs hw => ?_)
  subst hm
  exact eb_vret X hw rfl rfl dX9_interrupt_8

set_option maxHeartbeats 4000000 in
set_option maxRecDepth 100000 in
theorem c_X9_halt (l : Launch) (D : va_G) (cy : Nat → ClassId) (ad : Nat → Nat) (σ : eb_St) (a0 : Int32)  : eb_M l yX9_halt (Cond.code yX9_halt cX9_halt 2 none :: wsL_law) 1 25 D 33 cy cL ad σ [.ref (ad 0), .int a0] (none) (m_X9_halt σ a0) := by
  refine eb_start (own := RX9) (by decide) rfl rfl (Nat.le_of_ble_eq_true rfl) ?_
  intro p e s m args below meth c A ls X hw hl
  have hl : lv_has ls 2 [(0, .ref (ad 0)), (1, .int a0)] := hl
  have hx := X.1.1
  have hb := X.1.2.1
  have hown := X.1.2.2.2.1
  have hts := X.1.2.2.2.2
  generalize hm : m_X9_halt σ a0 = mm
  have hm : (if (σ.1 9 3) = 3 then (fun (z2 : eb_St) => z2) (m_X1_trap (eb_pI (eb_pI (eb_pJ (eb_pI σ 0 7 a0) 0 8 (σ.2 9 4)) 0 6 1) 0 6 2) (σ.2 25 1) a0 (σ.2 9 4)) else eb_pI (eb_pJ (eb_pI σ 0 7 a0) 0 8 (σ.2 9 4)) 0 6 1) = mm := hm
  refine lv_aload_n hx hb dX9_halt_0 rfl (lv_at hl 0 rfl) ?_
  refine lv_iload_n hx hb dX9_halt_1 rfl (lv_at hl 1 rfl) ?_
  refine eb_putI (T := TX9) X hw 0 7 (by decide) ⟨rfl, rfl, rfl⟩ (by decide) rfl (fun _ h => List.mem_cons_of_mem _ (inlX9 _ h)) (List.mem_cons_of_mem _ wi_2_18) tyX9 tyX9_ok nmX9 rfl rfl rfl dX9_halt_2 (fun H locs hw => ?_)
  refine lv_aload_n hx hb dX9_halt_5 rfl (lv_at hl 0 rfl) ?_
  refine lv_aload_n hx hb dX9_halt_6 rfl (lv_at hl 0 rfl) ?_
  refine eb_get (T := TX9) X hw 0 4 (by decide) ⟨rfl, rfl, rfl⟩ (by decide) (fun _ h => List.mem_cons_of_mem _ (inlX9 _ h)) (List.mem_cons_of_mem _ wi_2_12) (v := .ref (ad 9)) rfl dX9_halt_7 ?_
  refine eb_get (T := TX3) X hw 9 4 (by decide) ⟨rfl, rfl, rfl⟩ (by decide) (fun _ h => List.mem_cons_of_mem _ (inlX3 _ h)) (List.mem_cons_of_mem _ wi_28_23) (v := .long (σ.2 9 4)) rfl dX9_halt_10 ?_
  refine eb_putJ (T := TX9) X hw 0 8 (by decide) ⟨rfl, rfl, rfl⟩ (by decide) rfl (fun _ h => List.mem_cons_of_mem _ (inlX9 _ h)) (List.mem_cons_of_mem _ wi_6_10) tyX9 tyX9_ok nmX9 rfl rfl rfl dX9_halt_13 (fun H locs hw => ?_)
  refine lv_aload_n hx hb dX9_halt_16 rfl (lv_at hl 0 rfl) ?_
  refine lv_iconst (v := 1) hx hb dX9_halt_17 (by decide) ?_
  refine eb_putI (T := TX9) X hw 0 6 (by decide) ⟨rfl, rfl, rfl⟩ (by decide) rfl (fun _ h => List.mem_cons_of_mem _ (inlX9 _ h)) (List.mem_cons_of_mem _ wi_2_17) tyX9 tyX9_ok nmX9 rfl rfl rfl dX9_halt_18 (fun H locs hw => ?_)
  refine lv_aload_n hx hb dX9_halt_21 rfl (lv_at hl 0 rfl) ?_
  refine eb_get (T := TX9) X hw 0 4 (by decide) ⟨rfl, rfl, rfl⟩ (by decide) (fun _ h => List.mem_cons_of_mem _ (inlX9 _ h)) (List.mem_cons_of_mem _ wi_2_12) (v := .ref (ad 9)) rfl dX9_halt_22 ?_
  refine eb_get (T := TX3) X hw 9 3 (by decide) ⟨rfl, rfl, rfl⟩ (by decide) (fun _ h => List.mem_cons_of_mem _ (inlX3 _ h)) (List.mem_cons_of_mem _ wi_6_9) (v := .int (σ.1 9 3)) rfl dX9_halt_25 ?_
  refine lv_iconst (v := 3) hx hb dX9_halt_28 (by decide) ?_
  refine lv_icmp_ne (tgt := 59) hx hb dX9_halt_29 (by decide) (fun h1 => ?_) (fun h1 => ?_)
  · have hm := (if_neg h1).symm.trans hm
    subst hm
    exact eb_vret X hw rfl rfl dX9_halt_59
  · have hm := (if_pos h1).symm.trans hm
    refine lv_aload_n hx hb dX9_halt_32 rfl (lv_at hl 0 rfl) ?_
    refine lv_iconst (v := 2) hx hb dX9_halt_33 (by decide) ?_
    refine eb_putI (T := TX9) X hw 0 6 (by decide) ⟨rfl, rfl, rfl⟩ (by decide) rfl (fun _ h => List.mem_cons_of_mem _ (inlX9 _ h)) (List.mem_cons_of_mem _ wi_2_17) tyX9 tyX9_ok nmX9 rfl rfl rfl dX9_halt_34 (fun H locs hw => ?_)
    refine lv_aload_n hx hb dX9_halt_37 rfl (lv_at hl 0 rfl) ?_
    refine eb_get (T := TX9) X hw 0 2 (by decide) ⟨rfl, rfl, rfl⟩ (by decide) (fun _ h => List.mem_cons_of_mem _ (inlX9 _ h)) (List.mem_cons_of_mem _ wi_2_4) (v := .ref (ad 8)) rfl dX9_halt_38 ?_
    refine lv_aload_n hx hb dX9_halt_41 rfl (lv_at hl 0 rfl) ?_
    refine eb_get (T := TX9) X hw 0 3 (by decide) ⟨rfl, rfl, rfl⟩ (by decide) (fun _ h => List.mem_cons_of_mem _ (inlX9 _ h)) (List.mem_cons_of_mem _ wi_2_8) (v := .ref (ad 25)) rfl dX9_halt_42 ?_
    refine eb_get (T := TX7) X hw 25 1 (by decide) ⟨rfl, rfl, rfl⟩ (by decide) (fun _ h => List.mem_cons_of_mem _ (inlX7 _ h)) (List.mem_cons_of_mem _ wi_22_20) (v := .long (σ.2 25 1)) rfl dX9_halt_45 ?_
    refine lv_iload_n hx hb dX9_halt_48 rfl (lv_at hl 1 rfl) ?_
    refine lv_aload_n hx hb dX9_halt_49 rfl (lv_at hl 0 rfl) ?_
    refine eb_get (T := TX9) X hw 0 4 (by decide) ⟨rfl, rfl, rfl⟩ (by decide) (fun _ h => List.mem_cons_of_mem _ (inlX9 _ h)) (List.mem_cons_of_mem _ wi_2_12) (v := .ref (ad 9)) rfl dX9_halt_50 ?_
    refine eb_get (T := TX3) X hw 9 4 (by decide) ⟨rfl, rfl, rfl⟩ (by decide) (fun _ h => List.mem_cons_of_mem _ (inlX3 _ h)) (List.mem_cons_of_mem _ wi_28_23) (v := .long (σ.2 9 4)) rfl dX9_halt_53 ?_
    obtain ⟨z2, qz2⟩ : ∃ t : eb_St, t = m_X1_trap (eb_pI (eb_pI (eb_pJ (eb_pI σ 0 7 a0) 0 8 (σ.2 9 4)) 0 6 1) 0 6 2) (σ.2 25 1) a0 (σ.2 9 4) := ⟨_, rfl⟩
    have hm : z2 = mm := by rw [qz2]; exact hm
    have hc : eb_M l yX1_trap (Cond.code yX1_trap cX1_trap 6 none :: wsL_law) 0 0 D 33 cy cL ad (eb_pI (eb_pI (eb_pJ (eb_pI σ 0 7 a0) 0 8 (σ.2 9 4)) 0 6 1) 0 6 2) [.ref (ad 8), .long (σ.2 25 1), .int a0, .long (σ.2 9 4)] (none) z2 := by rw [qz2]; exact c_X1_trap l D cy ad (eb_pI (eb_pI (eb_pJ (eb_pI σ 0 7 a0) 0 8 (σ.2 9 4)) 0 6 1) 0 6 2) (σ.2 25 1) a0 (σ.2 9 4)
    refine eb_callV (n := 3) (as := [.long (σ.2 25 1), .int a0, .long (σ.2 9 4)]) (rest := []) X hw hl.1 8 hc (by decide) ⟨rfl, rfl, rfl⟩ (eb_goodV wi_29_0 wi_29_1 wi_29_2 wi_2_3 wi_29_3) rfl (by decide +kernel) ⟨by decide, by decide⟩ rfl rfl (Nat.le_of_ble_eq_true rfl) dX9_halt_56 ⟨by decide, by decide⟩ (st' := []) rfl (fun H locs hw => ?_)
    subst hm
    exact eb_vret X hw rfl rfl dX9_halt_59

set_option maxHeartbeats 4000000 in
set_option maxRecDepth 100000 in
theorem k_X9_settle_76 {p : Program} {l : Launch} {e : Env} {s : State} {m : MethodId} {args : Array Value} {below : List Frame} {meth : Method} {c : Code} {A : Nat → Prop} {H : Heap} {locs : List Loc} {ls : Array Slot} {D : va_G} {cy : Nat → ClassId} {ad : Nat → Nat} (X : eb_X p s m args meth c cX9_settle 2 RX9 (Cond.code yX9_settle cX9_settle 2 none :: wsL_law) none D cy A)   (σ : eb_St) (v1 : Int32)  {mm : eb_St} (hm : (m_X9_settle_76  σ v1) = mm) (hw : eb_H D 33 cy cL ad A s.heap σ H locs) (hl : lv_has ls 2 [(0, .ref (ad 0)), (1, .int v1)]) : W p l e ({ frames := 5, cells := 0, slots := 0, locals := 125 } : Room) s m args below meth c H locs 0 0 (MQ below (eb_Q D 33 cy cL ad A (none) mm) args s 0 0 A) (F0 m 76 ls []) := by
  have hx := X.1.1
  have hb := X.1.2.1
  have hown := X.1.2.2.2.1
  have hts := X.1.2.2.2.2
  have hm : (if v1 = (-1) then σ else (fun (z7 : eb_St) => z7) (m_X9_halt σ v1)) = mm := hm
  refine lv_iload_n hx hb dX9_settle_76 rfl (lv_at hl 1 rfl) ?_
  refine lv_iconst (v := (-1)) hx hb dX9_settle_77 (by decide) ?_
  refine lv_icmp_eq (tgt := 86) hx hb dX9_settle_78 (by decide) (fun h6 => ?_) (fun h6 => ?_)
  · have hm := (if_pos h6).symm.trans hm
    subst hm
    exact eb_vret X hw rfl rfl dX9_settle_86
  · have hm := (if_neg h6).symm.trans hm
    refine lv_aload_n hx hb dX9_settle_81 rfl (lv_at hl 0 rfl) ?_
    refine lv_iload_n hx hb dX9_settle_82 rfl (lv_at hl 1 rfl) ?_
    obtain ⟨z7, qz7⟩ : ∃ t : eb_St, t = m_X9_halt σ v1 := ⟨_, rfl⟩
    have hm : z7 = mm := by rw [qz7]; exact hm
    have hc : eb_M l yX9_halt (Cond.code yX9_halt cX9_halt 2 none :: wsL_law) 1 25 D 33 cy cL ad σ [.ref (ad 0), .int v1] (none) z7 := by rw [qz7]; exact c_X9_halt l D cy ad σ v1
    refine eb_callV (n := 1) (as := [.int v1]) (rest := []) X hw hl.1 0 hc (by decide) ⟨rfl, rfl, rfl⟩ (eb_goodV wi_28_19 wi_28_20 wi_28_21 wi_1_2 wi_28_22) rfl (by decide +kernel) ⟨by decide, by decide⟩ rfl rfl (Nat.le_of_ble_eq_true rfl) dX9_settle_83 ⟨by decide, by decide⟩ (st' := []) rfl (fun H locs hw => ?_)
    subst hm
    exact eb_vret X hw rfl rfl dX9_settle_86
set_option maxHeartbeats 4000000 in
set_option maxRecDepth 100000 in
theorem c_X9_settle (l : Launch) (D : va_G) (cy : Nat → ClassId) (ad : Nat → Nat) (σ : eb_St) (a0 : Int32)  : eb_M l yX9_settle (Cond.code yX9_settle cX9_settle 2 none :: wsL_law) 5 125 D 33 cy cL ad σ [.ref (ad 0), .int a0] (none) (m_X9_settle σ a0) := by
  refine eb_start (own := RX9) (by decide) rfl rfl (Nat.le_of_ble_eq_true rfl) ?_
  intro p e s m args below meth c A ls X hw hl
  have hl : lv_has ls 2 [(0, .ref (ad 0)), (1, .int a0)] := hl
  have hx := X.1.1
  have hb := X.1.2.1
  have hown := X.1.2.2.2.1
  have hts := X.1.2.2.2.2
  generalize hm : m_X9_settle σ a0 = mm
  have hm : (if (σ.1 10 6) = (-1) then (if a0 = 11 then (if (σ.1 9 3) = 0 then (fun (z4 : eb_St) => eb_pJ z4 25 1 ((z4.2 25 1) + 4)) (m_X5_answerHost (eb_pI σ 8 6 ((σ.1 8 6) + 1))) else m_X9_settle_76  (eb_pI σ 8 6 ((σ.1 8 6) + 1)) a0) else m_X9_settle_76  (eb_pI σ 8 6 ((σ.1 8 6) + 1)) a0) else (fun (z5 : eb_St) => z5) (m_X5_settleStay (eb_pI σ 8 6 ((σ.1 8 6) + 1)) a0)) = mm := hm
  refine lv_aload_n hx hb dX9_settle_0 rfl (lv_at hl 0 rfl) ?_
  refine eb_get (T := TX9) X hw 0 2 (by decide) ⟨rfl, rfl, rfl⟩ (by decide) (fun _ h => List.mem_cons_of_mem _ (inlX9 _ h)) (List.mem_cons_of_mem _ wi_2_4) (v := .ref (ad 8)) rfl dX9_settle_1 ?_
  refine lv_dup hx hb dX9_settle_4 rfl ?_
  refine eb_get (T := TX1) X hw 8 6 (by decide) ⟨rfl, rfl, rfl⟩ (by decide) (fun _ h => List.mem_cons_of_mem _ (inlX1 _ h)) (List.mem_cons_of_mem _ wi_22_18) (v := .int (σ.1 8 6)) rfl dX9_settle_5 ?_
  refine lv_iconst (v := 1) hx hb dX9_settle_8 (by decide) ?_
  refine lv_iadd hx hb dX9_settle_9 ?_
  refine eb_putI (T := TX1) X hw 8 6 (by decide) ⟨rfl, rfl, rfl⟩ (by decide) rfl (fun _ h => List.mem_cons_of_mem _ (inlX1 _ h)) (List.mem_cons_of_mem _ wi_22_18) tyX1 tyX1_ok nmX1 rfl rfl rfl dX9_settle_10 (fun H locs hw => ?_)
  refine lv_aload_n hx hb dX9_settle_13 rfl (lv_at hl 0 rfl) ?_
  refine eb_get (T := TX9) X hw 0 5 (by decide) ⟨rfl, rfl, rfl⟩ (by decide) (fun _ h => List.mem_cons_of_mem _ (inlX9 _ h)) (List.mem_cons_of_mem _ wi_2_16) (v := .ref (ad 10)) rfl dX9_settle_14 ?_
  refine eb_get (T := TX5) X hw 10 6 (by decide) ⟨rfl, rfl, rfl⟩ (by decide) (fun _ h => List.mem_cons_of_mem _ (inlX5 _ h)) (List.mem_cons_of_mem _ wi_22_19) (v := .int (σ.1 10 6)) rfl dX9_settle_17 ?_
  refine lv_iconst (v := (-1)) hx hb dX9_settle_20 (by decide) ?_
  refine lv_icmp_eq (tgt := 35) hx hb dX9_settle_21 (by decide) (fun h1 => ?_) (fun h1 => ?_)
  · have hm := (if_pos h1).symm.trans hm
    refine lv_iload_n hx hb dX9_settle_35 rfl (lv_at hl 1 rfl) ?_
    refine lv_bipush (v := 11) hx hb dX9_settle_36 (by decide) ?_
    refine lv_icmp_ne (tgt := 76) hx hb dX9_settle_38 (by decide) (fun h2 => ?_) (fun h2 => ?_)
    · have hm := (if_neg h2).symm.trans hm
      exact k_X9_settle_76 X   (eb_pI σ 8 6 ((σ.1 8 6) + 1)) a0 hm hw (lv_sub hl [0, 1] rfl)
    · have hm := (if_pos h2).symm.trans hm
      refine lv_aload_n hx hb dX9_settle_41 rfl (lv_at hl 0 rfl) ?_
      refine eb_get (T := TX9) X hw 0 4 (by decide) ⟨rfl, rfl, rfl⟩ (by decide) (fun _ h => List.mem_cons_of_mem _ (inlX9 _ h)) (List.mem_cons_of_mem _ wi_2_12) (v := .ref (ad 9)) rfl dX9_settle_42 ?_
      refine eb_get (T := TX3) X hw 9 3 (by decide) ⟨rfl, rfl, rfl⟩ (by decide) (fun _ h => List.mem_cons_of_mem _ (inlX3 _ h)) (List.mem_cons_of_mem _ wi_6_9) (v := .int (σ.1 9 3)) rfl dX9_settle_45 ?_
      refine lv_if_ne (tgt := 76) hx hb dX9_settle_48 (by decide) (fun h3 => ?_) (fun h3 => ?_)
      · have hm := (if_neg h3).symm.trans hm
        exact k_X9_settle_76 X   (eb_pI σ 8 6 ((σ.1 8 6) + 1)) a0 hm hw (lv_sub hl [0, 1] rfl)
      · have hm := (if_pos h3).symm.trans hm
        refine lv_aload_n hx hb dX9_settle_51 rfl (lv_at hl 0 rfl) ?_
        refine eb_get (T := TX9) X hw 0 5 (by decide) ⟨rfl, rfl, rfl⟩ (by decide) (fun _ h => List.mem_cons_of_mem _ (inlX9 _ h)) (List.mem_cons_of_mem _ wi_2_16) (v := .ref (ad 10)) rfl dX9_settle_52 ?_
        obtain ⟨z4, qz4⟩ : ∃ t : eb_St, t = m_X5_answerHost (eb_pI σ 8 6 ((σ.1 8 6) + 1)) := ⟨_, rfl⟩
        have hm : eb_pJ z4 25 1 ((z4.2 25 1) + 4) = mm := by rw [qz4]; exact hm
        have hc : eb_M l yX5_answerHost (Cond.code yX5_answerHost cX5_answerHost 5 none :: wsL_law) 4 101 D 33 cy cL ad (eb_pI σ 8 6 ((σ.1 8 6) + 1)) [.ref (ad 10)] (none) z4 := by rw [qz4]; exact c_X5_answerHost l D cy ad (eb_pI σ 8 6 ((σ.1 8 6) + 1)) 
        refine eb_callV (n := 0) (as := []) (rest := []) X hw hl.1 10 hc (by decide) ⟨rfl, rfl, rfl⟩ (eb_goodV wi_23_15 wi_23_16 wi_23_17 wi_2_15 wi_23_18) rfl (by decide +kernel) ⟨by decide, by decide⟩ rfl rfl (Nat.le_of_ble_eq_true rfl) dX9_settle_55 ⟨by decide, by decide⟩ (st' := []) rfl (fun H locs hw => ?_)
        refine lv_aload_n hx hb dX9_settle_58 rfl (lv_at hl 0 rfl) ?_
        refine eb_get (T := TX9) X hw 0 3 (by decide) ⟨rfl, rfl, rfl⟩ (by decide) (fun _ h => List.mem_cons_of_mem _ (inlX9 _ h)) (List.mem_cons_of_mem _ wi_2_8) (v := .ref (ad 25)) rfl dX9_settle_59 ?_
        refine lv_dup hx hb dX9_settle_62 rfl ?_
        refine eb_get (T := TX7) X hw 25 1 (by decide) ⟨rfl, rfl, rfl⟩ (by decide) (fun _ h => List.mem_cons_of_mem _ (inlX7 _ h)) (List.mem_cons_of_mem _ wi_22_20) (v := .long (z4.2 25 1)) rfl dX9_settle_63 ?_
        refine lv_ldc2 hx hb hown (hts _ (List.mem_cons_of_mem _ wi_22_21)) dX9_settle_66 ?_
        refine lv_ladd hx hb dX9_settle_69 ?_
        refine eb_putJ (T := TX7) X hw 25 1 (by decide) ⟨rfl, rfl, rfl⟩ (by decide) rfl (fun _ h => List.mem_cons_of_mem _ (inlX7 _ h)) (List.mem_cons_of_mem _ wi_22_20) tyX7 tyX7_ok nmX7 rfl rfl rfl dX9_settle_70 (fun H locs hw => ?_)
        refine lv_goto (tgt := 86) hx hb dX9_settle_73 (by decide) ?_
        subst hm
        exact eb_vret X hw rfl rfl dX9_settle_86
  · have hm := (if_neg h1).symm.trans hm
    refine lv_aload_n hx hb dX9_settle_24 rfl (lv_at hl 0 rfl) ?_
    refine eb_get (T := TX9) X hw 0 5 (by decide) ⟨rfl, rfl, rfl⟩ (by decide) (fun _ h => List.mem_cons_of_mem _ (inlX9 _ h)) (List.mem_cons_of_mem _ wi_2_16) (v := .ref (ad 10)) rfl dX9_settle_25 ?_
    refine lv_iload_n hx hb dX9_settle_28 rfl (lv_at hl 1 rfl) ?_
    obtain ⟨z5, qz5⟩ : ∃ t : eb_St, t = m_X5_settleStay (eb_pI σ 8 6 ((σ.1 8 6) + 1)) a0 := ⟨_, rfl⟩
    have hm : z5 = mm := by rw [qz5]; exact hm
    have hc : eb_M l yX5_settleStay (Cond.code yX5_settleStay cX5_settleStay 3 none :: wsL_law) 4 99 D 33 cy cL ad (eb_pI σ 8 6 ((σ.1 8 6) + 1)) [.ref (ad 10), .int a0] (none) z5 := by rw [qz5]; exact c_X5_settleStay l D cy ad (eb_pI σ 8 6 ((σ.1 8 6) + 1)) a0
    refine eb_callV (n := 1) (as := [.int a0]) (rest := []) X hw hl.1 10 hc (by decide) ⟨rfl, rfl, rfl⟩ (eb_goodV wi_22_22 wi_22_23 wi_23_0 wi_2_15 wi_23_1) rfl (by decide +kernel) ⟨by decide, by decide⟩ rfl rfl (Nat.le_of_ble_eq_true rfl) dX9_settle_29 ⟨by decide, by decide⟩ (st' := []) rfl (fun H locs hw => ?_)
    refine lv_goto (tgt := 86) hx hb dX9_settle_32 (by decide) ?_
    subst hm
    exact eb_vret X hw rfl rfl dX9_settle_86

set_option maxHeartbeats 4000000 in
set_option maxRecDepth 100000 in
theorem k_X9_run_16 {p : Program} {l : Launch} {e : Env} {s : State} {m : MethodId} {args : Array Value} {below : List Frame} {meth : Method} {c : Code} {A : Nat → Prop} {D : va_G} {cy : Nat → ClassId} {ad : Nat → Nat} (X : eb_X p s m args meth c cX9_run 3 RX9 (Cond.code yX9_run cX9_run 3 (some .int) :: wsL_law) (some .int) D cy A)   : ∀ (n : Nat) (σ : eb_St) (v1 : Int32) (v2 : Int32)   (hn : (v1.toInt - v2.toInt).toNat < n) {H : Heap} {locs : List Loc} {ls : Array Slot} {mm : Int32 × eb_St} (_ : (m_X9_run_16  n σ v1 v2) = mm) (hw : eb_H D 33 cy cL ad A s.heap σ H locs) (hl : lv_has ls 3 [(0, .ref (ad 0)), (1, .int v1), (2, .int v2)]), W p l e ({ frames := 7, cells := 0, slots := 0, locals := 170 } : Room) s m args below meth c H locs 0 0 (MQ below (eb_Q D 33 cy cL ad A (some (.int mm.1)) mm.2) args s 0 0 A) (F0 m 16 ls []) := by
  have hx := X.1.1
  have hb := X.1.2.1
  have hown := X.1.2.2.2.1
  have hts := X.1.2.2.2.2
  intro n
  induction n with
  | zero => intro σ v1 v2  hn; exact absurd hn (Nat.not_lt_zero _)
  | succ n ih =>
    intro σ v1 v2  hn H locs ls mm hm hw hl
    have hm : (if v1 ≤ v2 then (v2, σ) else (if (σ.1 0 6) = 0 then (fun (z5 : eb_St) => (fun (z6 : Nat) => (fun (z7 : Int32 × eb_St) => (fun (z8 : eb_St) => (fun (x9 : Int32) => m_X9_run_16  n z8 v1 x9) (v2 + 1)) (m_X9_settle z7.2 z7.1)) (m_X3_execute z5 z6)) (m_X5_whoRuns z5)) (m_X5_takeInterrupt σ) else (v2, σ))) = mm := hm
    refine lv_iload_n hx hb dX9_run_16 rfl (lv_at hl 2 rfl) ?_
    refine lv_iload_n hx hb dX9_run_17 rfl (lv_at hl 1 rfl) ?_
    refine lv_icmp_ge (tgt := 59) hx hb dX9_run_18 (by decide) (fun h3 => ?_) (fun h3 => ?_)
    · have hm := (if_pos h3).symm.trans hm
      refine lv_iload_n hx hb dX9_run_59 rfl (lv_at hl 2 rfl) ?_
      subst hm
      exact eb_iret X hw rfl rfl rfl dX9_run_60
    · have hm := (if_neg h3).symm.trans hm
      refine lv_aload_n hx hb dX9_run_21 rfl (lv_at hl 0 rfl) ?_
      refine eb_get (T := TX9) X hw 0 6 (by decide) ⟨rfl, rfl, rfl⟩ (by decide) (fun _ h => List.mem_cons_of_mem _ (inlX9 _ h)) (List.mem_cons_of_mem _ wi_2_17) (v := .int (σ.1 0 6)) rfl dX9_run_22 ?_
      refine lv_if_ne (tgt := 59) hx hb dX9_run_25 (by decide) (fun h4 => ?_) (fun h4 => ?_)
      · have hm := (if_neg h4).symm.trans hm
        refine lv_iload_n hx hb dX9_run_59 rfl (lv_at hl 2 rfl) ?_
        subst hm
        exact eb_iret X hw rfl rfl rfl dX9_run_60
      · have hm := (if_pos h4).symm.trans hm
        refine lv_aload_n hx hb dX9_run_28 rfl (lv_at hl 0 rfl) ?_
        refine eb_get (T := TX9) X hw 0 5 (by decide) ⟨rfl, rfl, rfl⟩ (by decide) (fun _ h => List.mem_cons_of_mem _ (inlX9 _ h)) (List.mem_cons_of_mem _ wi_2_16) (v := .ref (ad 10)) rfl dX9_run_29 ?_
        obtain ⟨z5, qz5⟩ : ∃ t : eb_St, t = m_X5_takeInterrupt σ := ⟨_, rfl⟩
        have hm : (fun (z6 : Nat) => (fun (z7 : Int32 × eb_St) => (fun (z8 : eb_St) => (fun (x9 : Int32) => m_X9_run_16  n z8 v1 x9) (v2 + 1)) (m_X9_settle z7.2 z7.1)) (m_X3_execute z5 z6)) (m_X5_whoRuns z5) = mm := by rw [qz5]; exact hm
        have hc : eb_M l yX5_takeInterrupt (Cond.code yX5_takeInterrupt cX5_takeInterrupt 1 none :: wsL_law) 4 99 D 33 cy cL ad σ [.ref (ad 10)] (none) z5 := by rw [qz5]; exact c_X5_takeInterrupt l D cy ad σ 
        refine eb_callV (n := 0) (as := []) (rest := []) X hw hl.1 10 hc (by decide) ⟨rfl, rfl, rfl⟩ (eb_goodV wi_12_17 wi_12_18 wi_12_19 wi_2_15 wi_12_20) rfl (by decide +kernel) ⟨by decide, by decide⟩ rfl rfl (Nat.le_of_ble_eq_true rfl) dX9_run_32 ⟨by decide, by decide⟩ (st' := []) rfl (fun H locs hw => ?_)
        refine lv_aload_n hx hb dX9_run_35 rfl (lv_at hl 0 rfl) ?_
        refine lv_aload_n hx hb dX9_run_36 rfl (lv_at hl 0 rfl) ?_
        refine eb_get (T := TX9) X hw 0 4 (by decide) ⟨rfl, rfl, rfl⟩ (by decide) (fun _ h => List.mem_cons_of_mem _ (inlX9 _ h)) (List.mem_cons_of_mem _ wi_2_12) (v := .ref (ad 9)) rfl dX9_run_37 ?_
        refine lv_aload_n hx hb dX9_run_40 rfl (lv_at hl 0 rfl) ?_
        refine eb_get (T := TX9) X hw 0 5 (by decide) ⟨rfl, rfl, rfl⟩ (by decide) (fun _ h => List.mem_cons_of_mem _ (inlX9 _ h)) (List.mem_cons_of_mem _ wi_2_16) (v := .ref (ad 10)) rfl dX9_run_41 ?_
        obtain ⟨z6, qz6⟩ : ∃ t : Nat, t = m_X5_whoRuns z5 := ⟨_, rfl⟩
        have hm : (fun (z7 : Int32 × eb_St) => (fun (z8 : eb_St) => (fun (x9 : Int32) => m_X9_run_16  n z8 v1 x9) (v2 + 1)) (m_X9_settle z7.2 z7.1)) (m_X3_execute z5 z6) = mm := by rw [qz6]; exact hm
        have hc : eb_M l yX5_whoRuns (Cond.code yX5_whoRuns cX5_whoRuns 1 (some (.object "EnclaveBoard$Registers")) :: wsL_law) 1 21 D 33 cy cL ad z5 [.ref (ad 10)] (some (.ref (ad (19 + z6)))) z5 := by rw [qz6]; exact c_X5_whoRuns l D cy ad z5 
        have bz6 : z6 < 7 := by rw [qz6]; exact l_X5_whoRuns _
        refine eb_callV (n := 0) (as := []) (rest := [.ref (ad 9), .ref (ad 0)]) X hw hl.1 10 hc (by decide) ⟨rfl, rfl, rfl⟩ (eb_goodV wi_14_6 wi_14_7 wi_14_8 wi_2_15 wi_14_9) rfl (by decide +kernel) ⟨by decide, by decide⟩ rfl rfl (Nat.le_of_ble_eq_true rfl) dX9_run_44 ⟨by decide, by decide⟩ (st' := [.ref (ad (19 + z6)), .ref (ad 9), .ref (ad 0)]) rfl (fun H locs hw => ?_)
        obtain ⟨z7, qz7⟩ : ∃ t : Int32 × eb_St, t = m_X3_execute z5 z6 := ⟨_, rfl⟩
        have hm : (fun (z8 : eb_St) => (fun (x9 : Int32) => m_X9_run_16  n z8 v1 x9) (v2 + 1)) (m_X9_settle z7.2 z7.1) = mm := by rw [qz7]; exact hm
        have hc : eb_M l yX3_execute (Cond.code yX3_execute cX3_execute 3 (some .int) :: wsL_law) 6 148 D 33 cy cL ad z5 [.ref (ad 9), .ref (ad (19 + z6))] (some (.int z7.1)) z7.2 := by rw [qz7]; exact c_X3_execute l D cy ad z5 z6 (by omega)
        refine eb_callV (n := 1) (as := [.ref (ad (19 + z6))]) (rest := [.ref (ad 0)]) X hw hl.1 9 hc (by decide) ⟨rfl, rfl, rfl⟩ (eb_goodV wi_14_11 wi_14_12 wi_14_13 wi_2_11 wi_14_14) rfl (by decide +kernel) ⟨by decide, by decide⟩ rfl rfl (Nat.le_of_ble_eq_true rfl) dX9_run_47 ⟨by decide, by decide⟩ (st' := [.int z7.1, .ref (ad 0)]) rfl (fun H locs hw => ?_)
        obtain ⟨z8, qz8⟩ : ∃ t : eb_St, t = m_X9_settle z7.2 z7.1 := ⟨_, rfl⟩
        have hm : (fun (x9 : Int32) => m_X9_run_16  n z8 v1 x9) (v2 + 1) = mm := by rw [qz8]; exact hm
        have hc : eb_M l yX9_settle (Cond.code yX9_settle cX9_settle 2 none :: wsL_law) 5 125 D 33 cy cL ad z7.2 [.ref (ad 0), .int z7.1] (none) z8 := by rw [qz8]; exact c_X9_settle l D cy ad z7.2 z7.1
        refine eb_callV (n := 1) (as := [.int z7.1]) (rest := []) X hw hl.1 0 hc (by decide) ⟨rfl, rfl, rfl⟩ (eb_goodV wi_22_14 wi_22_15 wi_22_16 wi_1_2 wi_22_17) rfl (by decide +kernel) ⟨by decide, by decide⟩ rfl rfl (Nat.le_of_ble_eq_true rfl) dX9_run_50 ⟨by decide, by decide⟩ (st' := []) rfl (fun H locs hw => ?_)
        obtain ⟨x9, ex9⟩ : ∃ z : Int32, z = v2 + 1 := ⟨_, rfl⟩
        have hm : m_X9_run_16  n z8 v1 x9 = mm := by rw [ex9]; exact hm
        refine lv_iinc (v := x9) (lv' := [(2, .int x9), (0, .ref (ad 0)), (1, .int v1)]) hx hb dX9_run_53 hl (k := 2) rfl (by rw [ex9]; exact congrArg (v2 + ·) (by decide)) (by decide) rfl (fun ls hl => ?_)
        refine lv_goto (tgt := 16) hx hb dX9_run_56 (by decide) ?_
        exact ih z8 v1 x9 (eb_up1 (eb_nle h3) ex9 hn) hm hw (lv_sub hl [1, 2, 0] rfl)
set_option maxHeartbeats 4000000 in
set_option maxRecDepth 100000 in
theorem c_X9_run (l : Launch) (D : va_G) (cy : Nat → ClassId) (ad : Nat → Nat) (σ : eb_St) (a0 : Int32)  : eb_M l yX9_run (Cond.code yX9_run cX9_run 3 (some .int) :: wsL_law) 7 170 D 33 cy cL ad σ [.ref (ad 0), .int a0] (some (.int (m_X9_run σ a0).1)) ((m_X9_run σ a0).2) := by
  refine eb_start (own := RX9) (by decide) rfl rfl (Nat.le_of_ble_eq_true rfl) ?_
  intro p e s m args below meth c A ls X hw hl
  have hl : lv_has ls 3 [(0, .ref (ad 0)), (1, .int a0)] := hl
  have hx := X.1.1
  have hb := X.1.2.1
  have hown := X.1.2.2.2.1
  have hts := X.1.2.2.2.2
  generalize hm : m_X9_run σ a0 = mm
  have hm : (if a0 < 1 then ((-1), σ) else (if a0 ≤ 5000 then m_X9_run_16  ((a0.toInt - (0 : Int32).toInt).toNat + 1) σ a0 0 else ((-1), σ))) = mm := hm
  refine lv_iload_n hx hb dX9_run_0 rfl (lv_at hl 1 rfl) ?_
  refine lv_iconst (v := 1) hx hb dX9_run_1 (by decide) ?_
  refine lv_icmp_lt (tgt := 12) hx hb dX9_run_2 (by decide) (fun h1 => ?_) (fun h1 => ?_)
  · have hm := (if_pos h1).symm.trans hm
    refine lv_iconst (v := (-1)) hx hb dX9_run_12 (by decide) ?_
    subst hm
    exact eb_iret X hw rfl rfl rfl dX9_run_13
  · have hm := (if_neg h1).symm.trans hm
    refine lv_iload_n hx hb dX9_run_5 rfl (lv_at hl 1 rfl) ?_
    refine lv_sipush (v := 5000) hx hb dX9_run_6 (by decide) ?_
    refine lv_icmp_le (tgt := 14) hx hb dX9_run_9 (by decide) (fun h2 => ?_) (fun h2 => ?_)
    · have hm := (if_pos h2).symm.trans hm
      refine lv_iconst (v := 0) hx hb dX9_run_14 (by decide) ?_
      refine lv_istore_n (lv' := [(2, .int 0), (0, .ref (ad 0)), (1, .int a0)]) hx hb dX9_run_15 rfl hl (by decide) rfl (fun ls hl => ?_)
      exact k_X9_run_16 X   ((a0.toInt - (0 : Int32).toInt).toNat + 1) σ a0 0 (Nat.lt_succ_self _) hm hw (lv_sub hl [1, 2, 0] rfl)
    · have hm := (if_neg h2).symm.trans hm
      refine lv_iconst (v := (-1)) hx hb dX9_run_12 (by decide) ?_
      subst hm
      exact eb_iret X hw rfl rfl rfl dX9_run_13

set_option maxHeartbeats 4000000 in
set_option maxRecDepth 100000 in
theorem c_X9_register (l : Launch) (D : va_G) (cy : Nat → ClassId) (ad : Nat → Nat) (σ : eb_St) (a0 : Int32)  : eb_M l yX9_register (Cond.code yX9_register cX9_register 2 (some .long) :: wsL_law) 1 21 D 33 cy cL ad σ [.ref (ad 0), .int a0] (some (.long (m_X9_register σ a0))) σ := by
  refine eb_start (own := RX9) (by decide) rfl rfl (Nat.le_of_ble_eq_true rfl) ?_
  intro p e s m args below meth c A ls X hw hl
  have hl : lv_has ls 2 [(0, .ref (ad 0)), (1, .int a0)] := hl
  have hx := X.1.1
  have hb := X.1.2.1
  have hown := X.1.2.2.2.1
  have hts := X.1.2.2.2.2
  generalize hm : m_X9_register σ a0 = mm
  have hm : (if a0 < 0 then 0 else (if a0 ≤ 31 then (fun (z3 : Int64) => z3) (m_X7_get σ 6 a0) else 0)) = mm := hm
  refine lv_iload_n hx hb dX9_register_0 rfl (lv_at hl 1 rfl) ?_
  refine lv_if_lt (tgt := 10) hx hb dX9_register_1 (by decide) (fun h1 => ?_) (fun h1 => ?_)
  · have hm := (if_pos h1).symm.trans hm
    refine lv_lconst (v := 0) hx hb dX9_register_10 (by decide) ?_
    refine lv_goto (tgt := 22) hx hb dX9_register_11 (by decide) ?_
    subst hm
    exact eb_lret X hw rfl rfl rfl dX9_register_22
  · have hm := (if_neg h1).symm.trans hm
    refine lv_iload_n hx hb dX9_register_4 rfl (lv_at hl 1 rfl) ?_
    refine lv_bipush (v := 31) hx hb dX9_register_5 (by decide) ?_
    refine lv_icmp_le (tgt := 14) hx hb dX9_register_7 (by decide) (fun h2 => ?_) (fun h2 => ?_)
    · have hm := (if_pos h2).symm.trans hm
      refine lv_aload_n hx hb dX9_register_14 rfl (lv_at hl 0 rfl) ?_
      refine eb_get (T := TX9) X hw 0 3 (by decide) ⟨rfl, rfl, rfl⟩ (by decide) (fun _ h => List.mem_cons_of_mem _ (inlX9 _ h)) (List.mem_cons_of_mem _ wi_2_8) (v := .ref (ad 25)) rfl dX9_register_15 ?_
      refine lv_iload_n hx hb dX9_register_18 rfl (lv_at hl 1 rfl) ?_
      obtain ⟨z3, qz3⟩ : ∃ t : Int64, t = m_X7_get σ 6 a0 := ⟨_, rfl⟩
      have hm : z3 = mm := by rw [qz3]; exact hm
      have hc : eb_M l yX7_get (Cond.code yX7_get cX7_get 2 (some .long) :: wsL_law) 0 0 D 33 cy cL ad σ [.ref (ad 25), .int a0] (some (.long z3)) σ := by rw [qz3]; exact c_X7_get l D cy ad σ 6 a0 (by decide)
      refine eb_callV (n := 1) (as := [.int a0]) (rest := []) X hw hl.1 25 hc (by decide) ⟨rfl, rfl, rfl⟩ (eb_goodV wi_39_0 wi_16_5 wi_16_6 wi_2_7 wi_16_7) rfl (by decide +kernel) ⟨by decide, by decide⟩ rfl rfl (Nat.le_of_ble_eq_true rfl) dX9_register_19 ⟨by decide, by decide⟩ (st' := [.long z3]) rfl (fun H locs hw => ?_)
      subst hm
      exact eb_lret X hw rfl rfl rfl dX9_register_22
    · have hm := (if_neg h2).symm.trans hm
      refine lv_lconst (v := 0) hx hb dX9_register_10 (by decide) ?_
      refine lv_goto (tgt := 22) hx hb dX9_register_11 (by decide) ?_
      subst hm
      exact eb_lret X hw rfl rfl rfl dX9_register_22

set_option maxHeartbeats 4000000 in
set_option maxRecDepth 100000 in
theorem c_X9_state (l : Launch) (D : va_G) (cy : Nat → ClassId) (ad : Nat → Nat) (σ : eb_St) (a0 : Int32)  : eb_M l yX9_state (Cond.code yX9_state cX9_state 2 (some .int) :: wsL_law) 0 0 D 33 cy cL ad σ [.ref (ad 0), .int a0] (some (.int (m_X9_state σ a0))) σ := by
  refine eb_start (own := RX9) (by decide) rfl rfl (Nat.le_of_ble_eq_true rfl) ?_
  intro p e s m args below meth c A ls X hw hl
  have hl : lv_has ls 2 [(0, .ref (ad 0)), (1, .int a0)] := hl
  have hx := X.1.1
  have hb := X.1.2.1
  have hown := X.1.2.2.2.1
  have hts := X.1.2.2.2.2
  generalize hm : m_X9_state σ a0 = mm
  have hm : (if a0 = 0 then σ.1 9 3 else if a0 = 1 then σ.1 0 6 else if a0 = 2 then σ.1 10 6 else if a0 = 3 then σ.1 0 7 else if a0 = 4 then σ.1 8 6 else if a0 = 5 then σ.1 10 10 else if a0 = 6 then σ.1 10 11 else if a0 = 7 then σ.1 10 12 else if a0 = 8 then σ.1 10 13 else (-1)) = mm := hm
  refine lv_iload_n hx hb dX9_state_0 rfl (lv_at hl 1 rfl) ?_
  by_cases h1 : a0 = 0
  · have hm := (if_pos h1).symm.trans hm
    refine lv_tableIn (off := 51) (tgt := 52) hx hb dX9_state_1 (by rw [h1]; decide) (by rw [h1]; decide) (by rw [h1]; rfl) (by decide) ?_
    refine lv_aload_n hx hb dX9_state_52 rfl (lv_at hl 0 rfl) ?_
    refine eb_get (T := TX9) X hw 0 4 (by decide) ⟨rfl, rfl, rfl⟩ (by decide) (fun _ h => List.mem_cons_of_mem _ (inlX9 _ h)) (List.mem_cons_of_mem _ wi_2_12) (v := .ref (ad 9)) rfl dX9_state_53 ?_
    refine eb_get (T := TX3) X hw 9 3 (by decide) ⟨rfl, rfl, rfl⟩ (by decide) (fun _ h => List.mem_cons_of_mem _ (inlX3 _ h)) (List.mem_cons_of_mem _ wi_6_9) (v := .int (σ.1 9 3)) rfl dX9_state_56 ?_
    subst hm
    exact eb_iret X hw rfl rfl rfl dX9_state_59
  · have hm := (if_neg h1).symm.trans hm
    by_cases h2 : a0 = 1
    · have hm := (if_pos h2).symm.trans hm
      refine lv_tableIn (off := 59) (tgt := 60) hx hb dX9_state_1 (by rw [h2]; decide) (by rw [h2]; decide) (by rw [h2]; rfl) (by decide) ?_
      refine lv_aload_n hx hb dX9_state_60 rfl (lv_at hl 0 rfl) ?_
      refine eb_get (T := TX9) X hw 0 6 (by decide) ⟨rfl, rfl, rfl⟩ (by decide) (fun _ h => List.mem_cons_of_mem _ (inlX9 _ h)) (List.mem_cons_of_mem _ wi_2_17) (v := .int (σ.1 0 6)) rfl dX9_state_61 ?_
      subst hm
      exact eb_iret X hw rfl rfl rfl dX9_state_64
    · have hm := (if_neg h2).symm.trans hm
      by_cases h3 : a0 = 2
      · have hm := (if_pos h3).symm.trans hm
        refine lv_tableIn (off := 64) (tgt := 65) hx hb dX9_state_1 (by rw [h3]; decide) (by rw [h3]; decide) (by rw [h3]; rfl) (by decide) ?_
        refine lv_aload_n hx hb dX9_state_65 rfl (lv_at hl 0 rfl) ?_
        refine eb_get (T := TX9) X hw 0 5 (by decide) ⟨rfl, rfl, rfl⟩ (by decide) (fun _ h => List.mem_cons_of_mem _ (inlX9 _ h)) (List.mem_cons_of_mem _ wi_2_16) (v := .ref (ad 10)) rfl dX9_state_66 ?_
        refine eb_get (T := TX5) X hw 10 6 (by decide) ⟨rfl, rfl, rfl⟩ (by decide) (fun _ h => List.mem_cons_of_mem _ (inlX5 _ h)) (List.mem_cons_of_mem _ wi_22_19) (v := .int (σ.1 10 6)) rfl dX9_state_69 ?_
        subst hm
        exact eb_iret X hw rfl rfl rfl dX9_state_72
      · have hm := (if_neg h3).symm.trans hm
        by_cases h4 : a0 = 3
        · have hm := (if_pos h4).symm.trans hm
          refine lv_tableIn (off := 72) (tgt := 73) hx hb dX9_state_1 (by rw [h4]; decide) (by rw [h4]; decide) (by rw [h4]; rfl) (by decide) ?_
          refine lv_aload_n hx hb dX9_state_73 rfl (lv_at hl 0 rfl) ?_
          refine eb_get (T := TX9) X hw 0 7 (by decide) ⟨rfl, rfl, rfl⟩ (by decide) (fun _ h => List.mem_cons_of_mem _ (inlX9 _ h)) (List.mem_cons_of_mem _ wi_2_18) (v := .int (σ.1 0 7)) rfl dX9_state_74 ?_
          subst hm
          exact eb_iret X hw rfl rfl rfl dX9_state_77
        · have hm := (if_neg h4).symm.trans hm
          by_cases h5 : a0 = 4
          · have hm := (if_pos h5).symm.trans hm
            refine lv_tableIn (off := 77) (tgt := 78) hx hb dX9_state_1 (by rw [h5]; decide) (by rw [h5]; decide) (by rw [h5]; rfl) (by decide) ?_
            refine lv_aload_n hx hb dX9_state_78 rfl (lv_at hl 0 rfl) ?_
            refine eb_get (T := TX9) X hw 0 2 (by decide) ⟨rfl, rfl, rfl⟩ (by decide) (fun _ h => List.mem_cons_of_mem _ (inlX9 _ h)) (List.mem_cons_of_mem _ wi_2_4) (v := .ref (ad 8)) rfl dX9_state_79 ?_
            refine eb_get (T := TX1) X hw 8 6 (by decide) ⟨rfl, rfl, rfl⟩ (by decide) (fun _ h => List.mem_cons_of_mem _ (inlX1 _ h)) (List.mem_cons_of_mem _ wi_22_18) (v := .int (σ.1 8 6)) rfl dX9_state_82 ?_
            subst hm
            exact eb_iret X hw rfl rfl rfl dX9_state_85
          · have hm := (if_neg h5).symm.trans hm
            by_cases h6 : a0 = 5
            · have hm := (if_pos h6).symm.trans hm
              refine lv_tableIn (off := 85) (tgt := 86) hx hb dX9_state_1 (by rw [h6]; decide) (by rw [h6]; decide) (by rw [h6]; rfl) (by decide) ?_
              refine lv_aload_n hx hb dX9_state_86 rfl (lv_at hl 0 rfl) ?_
              refine eb_get (T := TX9) X hw 0 5 (by decide) ⟨rfl, rfl, rfl⟩ (by decide) (fun _ h => List.mem_cons_of_mem _ (inlX9 _ h)) (List.mem_cons_of_mem _ wi_2_16) (v := .ref (ad 10)) rfl dX9_state_87 ?_
              refine eb_get (T := TX5) X hw 10 10 (by decide) ⟨rfl, rfl, rfl⟩ (by decide) (fun _ h => List.mem_cons_of_mem _ (inlX5 _ h)) (List.mem_cons_of_mem _ wi_39_9) (v := .int (σ.1 10 10)) rfl dX9_state_90 ?_
              subst hm
              exact eb_iret X hw rfl rfl rfl dX9_state_93
            · have hm := (if_neg h6).symm.trans hm
              by_cases h7 : a0 = 6
              · have hm := (if_pos h7).symm.trans hm
                refine lv_tableIn (off := 93) (tgt := 94) hx hb dX9_state_1 (by rw [h7]; decide) (by rw [h7]; decide) (by rw [h7]; rfl) (by decide) ?_
                refine lv_aload_n hx hb dX9_state_94 rfl (lv_at hl 0 rfl) ?_
                refine eb_get (T := TX9) X hw 0 5 (by decide) ⟨rfl, rfl, rfl⟩ (by decide) (fun _ h => List.mem_cons_of_mem _ (inlX9 _ h)) (List.mem_cons_of_mem _ wi_2_16) (v := .ref (ad 10)) rfl dX9_state_95 ?_
                refine eb_get (T := TX5) X hw 10 11 (by decide) ⟨rfl, rfl, rfl⟩ (by decide) (fun _ h => List.mem_cons_of_mem _ (inlX5 _ h)) (List.mem_cons_of_mem _ wi_39_10) (v := .int (σ.1 10 11)) rfl dX9_state_98 ?_
                subst hm
                exact eb_iret X hw rfl rfl rfl dX9_state_101
              · have hm := (if_neg h7).symm.trans hm
                by_cases h8 : a0 = 7
                · have hm := (if_pos h8).symm.trans hm
                  refine lv_tableIn (off := 101) (tgt := 102) hx hb dX9_state_1 (by rw [h8]; decide) (by rw [h8]; decide) (by rw [h8]; rfl) (by decide) ?_
                  refine lv_aload_n hx hb dX9_state_102 rfl (lv_at hl 0 rfl) ?_
                  refine eb_get (T := TX9) X hw 0 5 (by decide) ⟨rfl, rfl, rfl⟩ (by decide) (fun _ h => List.mem_cons_of_mem _ (inlX9 _ h)) (List.mem_cons_of_mem _ wi_2_16) (v := .ref (ad 10)) rfl dX9_state_103 ?_
                  refine eb_get (T := TX5) X hw 10 12 (by decide) ⟨rfl, rfl, rfl⟩ (by decide) (fun _ h => List.mem_cons_of_mem _ (inlX5 _ h)) (List.mem_cons_of_mem _ wi_39_11) (v := .int (σ.1 10 12)) rfl dX9_state_106 ?_
                  subst hm
                  exact eb_iret X hw rfl rfl rfl dX9_state_109
                · have hm := (if_neg h8).symm.trans hm
                  by_cases h9 : a0 = 8
                  · have hm := (if_pos h9).symm.trans hm
                    refine lv_tableIn (off := 109) (tgt := 110) hx hb dX9_state_1 (by rw [h9]; decide) (by rw [h9]; decide) (by rw [h9]; rfl) (by decide) ?_
                    refine lv_aload_n hx hb dX9_state_110 rfl (lv_at hl 0 rfl) ?_
                    refine eb_get (T := TX9) X hw 0 5 (by decide) ⟨rfl, rfl, rfl⟩ (by decide) (fun _ h => List.mem_cons_of_mem _ (inlX9 _ h)) (List.mem_cons_of_mem _ wi_2_16) (v := .ref (ad 10)) rfl dX9_state_111 ?_
                    refine eb_get (T := TX5) X hw 10 13 (by decide) ⟨rfl, rfl, rfl⟩ (by decide) (fun _ h => List.mem_cons_of_mem _ (inlX5 _ h)) (List.mem_cons_of_mem _ wi_39_12) (v := .int (σ.1 10 13)) rfl dX9_state_114 ?_
                    subst hm
                    exact eb_iret X hw rfl rfl rfl dX9_state_117
                  · have hm := (if_neg h9).symm.trans hm
                    refine lv_tableOut (tgt := 118) hx hb dX9_state_1 (by have qh1 := lv_neT h1 (a := 0) (by decide); have qh2 := lv_neT h2 (a := 1) (by decide); have qh3 := lv_neT h3 (a := 2) (by decide); have qh4 := lv_neT h4 (a := 3) (by decide); have qh5 := lv_neT h5 (a := 4) (by decide); have qh6 := lv_neT h6 (a := 5) (by decide); have qh7 := lv_neT h7 (a := 6) (by decide); have qh8 := lv_neT h8 (a := 7) (by decide); have qh9 := lv_neT h9 (a := 8) (by decide); omega) (by decide) ?_
                    refine lv_iconst (v := (-1)) hx hb dX9_state_118 (by decide) ?_
                    subst hm
                    exact eb_iret X hw rfl rfl rfl dX9_state_119

set_option maxHeartbeats 4000000 in
set_option maxRecDepth 100000 in
theorem c_X9_held (l : Launch) (D : va_G) (cy : Nat → ClassId) (ad : Nat → Nat) (σ : eb_St) (a0 : Int32)  : eb_M l yX9_held (Cond.code yX9_held cX9_held 2 (some .long) :: wsL_law) 1 20 D 33 cy cL ad σ [.ref (ad 0), .int a0] (some (.long (m_X9_held σ a0))) σ := by
  refine eb_start (own := RX9) (by decide) rfl rfl (Nat.le_of_ble_eq_true rfl) ?_
  intro p e s m args below meth c A ls X hw hl
  have hl : lv_has ls 2 [(0, .ref (ad 0)), (1, .int a0)] := hl
  have hx := X.1.1
  have hb := X.1.2.1
  have hown := X.1.2.2.2.1
  have hts := X.1.2.2.2.2
  generalize hm : m_X9_held σ a0 = mm
  have hm : (if a0 = 0 then σ.2 25 1 else if a0 = 1 then σ.2 0 8 else if a0 = 2 then (fun (z4 : Int64) => z4) (m_X1_mstatus σ) else if a0 = 3 then σ.2 8 2 else if a0 = 4 then σ.2 8 3 else if a0 = 5 then σ.2 8 4 else if a0 = 6 then σ.2 8 5 else 0) = mm := hm
  refine lv_iload_n hx hb dX9_held_0 rfl (lv_at hl 1 rfl) ?_
  by_cases h1 : a0 = 0
  · have hm := (if_pos h1).symm.trans hm
    refine lv_tableIn (off := 43) (tgt := 44) hx hb dX9_held_1 (by rw [h1]; decide) (by rw [h1]; decide) (by rw [h1]; rfl) (by decide) ?_
    refine lv_aload_n hx hb dX9_held_44 rfl (lv_at hl 0 rfl) ?_
    refine eb_get (T := TX9) X hw 0 3 (by decide) ⟨rfl, rfl, rfl⟩ (by decide) (fun _ h => List.mem_cons_of_mem _ (inlX9 _ h)) (List.mem_cons_of_mem _ wi_2_8) (v := .ref (ad 25)) rfl dX9_held_45 ?_
    refine eb_get (T := TX7) X hw 25 1 (by decide) ⟨rfl, rfl, rfl⟩ (by decide) (fun _ h => List.mem_cons_of_mem _ (inlX7 _ h)) (List.mem_cons_of_mem _ wi_22_20) (v := .long (σ.2 25 1)) rfl dX9_held_48 ?_
    subst hm
    exact eb_lret X hw rfl rfl rfl dX9_held_51
  · have hm := (if_neg h1).symm.trans hm
    by_cases h2 : a0 = 1
    · have hm := (if_pos h2).symm.trans hm
      refine lv_tableIn (off := 51) (tgt := 52) hx hb dX9_held_1 (by rw [h2]; decide) (by rw [h2]; decide) (by rw [h2]; rfl) (by decide) ?_
      refine lv_aload_n hx hb dX9_held_52 rfl (lv_at hl 0 rfl) ?_
      refine eb_get (T := TX9) X hw 0 8 (by decide) ⟨rfl, rfl, rfl⟩ (by decide) (fun _ h => List.mem_cons_of_mem _ (inlX9 _ h)) (List.mem_cons_of_mem _ wi_6_10) (v := .long (σ.2 0 8)) rfl dX9_held_53 ?_
      subst hm
      exact eb_lret X hw rfl rfl rfl dX9_held_56
    · have hm := (if_neg h2).symm.trans hm
      by_cases h3 : a0 = 2
      · have hm := (if_pos h3).symm.trans hm
        refine lv_tableIn (off := 56) (tgt := 57) hx hb dX9_held_1 (by rw [h3]; decide) (by rw [h3]; decide) (by rw [h3]; rfl) (by decide) ?_
        refine lv_aload_n hx hb dX9_held_57 rfl (lv_at hl 0 rfl) ?_
        refine eb_get (T := TX9) X hw 0 2 (by decide) ⟨rfl, rfl, rfl⟩ (by decide) (fun _ h => List.mem_cons_of_mem _ (inlX9 _ h)) (List.mem_cons_of_mem _ wi_2_4) (v := .ref (ad 8)) rfl dX9_held_58 ?_
        obtain ⟨z4, qz4⟩ : ∃ t : Int64, t = m_X1_mstatus σ := ⟨_, rfl⟩
        have hm : z4 = mm := by rw [qz4]; exact hm
        have hc : eb_M l yX1_mstatus (Cond.code yX1_mstatus cX1_mstatus 1 (some .long) :: wsL_law) 0 0 D 33 cy cL ad σ [.ref (ad 8)] (some (.long z4)) σ := by rw [qz4]; exact c_X1_mstatus l D cy ad σ 
        refine eb_callV (n := 0) (as := []) (rest := []) X hw hl.1 8 hc (by decide) ⟨rfl, rfl, rfl⟩ (eb_goodV wi_40_1 wi_21_1 wi_21_2 wi_2_3 wi_21_3) rfl (by decide +kernel) ⟨by decide, by decide⟩ rfl rfl (Nat.le_of_ble_eq_true rfl) dX9_held_61 ⟨by decide, by decide⟩ (st' := [.long z4]) rfl (fun H locs hw => ?_)
        subst hm
        exact eb_lret X hw rfl rfl rfl dX9_held_64
      · have hm := (if_neg h3).symm.trans hm
        by_cases h5 : a0 = 3
        · have hm := (if_pos h5).symm.trans hm
          refine lv_tableIn (off := 64) (tgt := 65) hx hb dX9_held_1 (by rw [h5]; decide) (by rw [h5]; decide) (by rw [h5]; rfl) (by decide) ?_
          refine lv_aload_n hx hb dX9_held_65 rfl (lv_at hl 0 rfl) ?_
          refine eb_get (T := TX9) X hw 0 2 (by decide) ⟨rfl, rfl, rfl⟩ (by decide) (fun _ h => List.mem_cons_of_mem _ (inlX9 _ h)) (List.mem_cons_of_mem _ wi_2_4) (v := .ref (ad 8)) rfl dX9_held_66 ?_
          refine eb_get (T := TX1) X hw 8 2 (by decide) ⟨rfl, rfl, rfl⟩ (by decide) (fun _ h => List.mem_cons_of_mem _ (inlX1 _ h)) (List.mem_cons_of_mem _ wi_39_21) (v := .long (σ.2 8 2)) rfl dX9_held_69 ?_
          subst hm
          exact eb_lret X hw rfl rfl rfl dX9_held_72
        · have hm := (if_neg h5).symm.trans hm
          by_cases h6 : a0 = 4
          · have hm := (if_pos h6).symm.trans hm
            refine lv_tableIn (off := 72) (tgt := 73) hx hb dX9_held_1 (by rw [h6]; decide) (by rw [h6]; decide) (by rw [h6]; rfl) (by decide) ?_
            refine lv_aload_n hx hb dX9_held_73 rfl (lv_at hl 0 rfl) ?_
            refine eb_get (T := TX9) X hw 0 2 (by decide) ⟨rfl, rfl, rfl⟩ (by decide) (fun _ h => List.mem_cons_of_mem _ (inlX9 _ h)) (List.mem_cons_of_mem _ wi_2_4) (v := .ref (ad 8)) rfl dX9_held_74 ?_
            refine eb_get (T := TX1) X hw 8 3 (by decide) ⟨rfl, rfl, rfl⟩ (by decide) (fun _ h => List.mem_cons_of_mem _ (inlX1 _ h)) (List.mem_cons_of_mem _ wi_39_22) (v := .long (σ.2 8 3)) rfl dX9_held_77 ?_
            subst hm
            exact eb_lret X hw rfl rfl rfl dX9_held_80
          · have hm := (if_neg h6).symm.trans hm
            by_cases h7 : a0 = 5
            · have hm := (if_pos h7).symm.trans hm
              refine lv_tableIn (off := 80) (tgt := 81) hx hb dX9_held_1 (by rw [h7]; decide) (by rw [h7]; decide) (by rw [h7]; rfl) (by decide) ?_
              refine lv_aload_n hx hb dX9_held_81 rfl (lv_at hl 0 rfl) ?_
              refine eb_get (T := TX9) X hw 0 2 (by decide) ⟨rfl, rfl, rfl⟩ (by decide) (fun _ h => List.mem_cons_of_mem _ (inlX9 _ h)) (List.mem_cons_of_mem _ wi_2_4) (v := .ref (ad 8)) rfl dX9_held_82 ?_
              refine eb_get (T := TX1) X hw 8 4 (by decide) ⟨rfl, rfl, rfl⟩ (by decide) (fun _ h => List.mem_cons_of_mem _ (inlX1 _ h)) (List.mem_cons_of_mem _ wi_39_23) (v := .long (σ.2 8 4)) rfl dX9_held_85 ?_
              subst hm
              exact eb_lret X hw rfl rfl rfl dX9_held_88
            · have hm := (if_neg h7).symm.trans hm
              by_cases h8 : a0 = 6
              · have hm := (if_pos h8).symm.trans hm
                refine lv_tableIn (off := 88) (tgt := 89) hx hb dX9_held_1 (by rw [h8]; decide) (by rw [h8]; decide) (by rw [h8]; rfl) (by decide) ?_
                refine lv_aload_n hx hb dX9_held_89 rfl (lv_at hl 0 rfl) ?_
                refine eb_get (T := TX9) X hw 0 2 (by decide) ⟨rfl, rfl, rfl⟩ (by decide) (fun _ h => List.mem_cons_of_mem _ (inlX9 _ h)) (List.mem_cons_of_mem _ wi_2_4) (v := .ref (ad 8)) rfl dX9_held_90 ?_
                refine eb_get (T := TX1) X hw 8 5 (by decide) ⟨rfl, rfl, rfl⟩ (by decide) (fun _ h => List.mem_cons_of_mem _ (inlX1 _ h)) (List.mem_cons_of_mem _ wi_40_0) (v := .long (σ.2 8 5)) rfl dX9_held_93 ?_
                subst hm
                exact eb_lret X hw rfl rfl rfl dX9_held_96
              · have hm := (if_neg h8).symm.trans hm
                refine lv_tableOut (tgt := 97) hx hb dX9_held_1 (by have qh1 := lv_neT h1 (a := 0) (by decide); have qh2 := lv_neT h2 (a := 1) (by decide); have qh3 := lv_neT h3 (a := 2) (by decide); have qh5 := lv_neT h5 (a := 3) (by decide); have qh6 := lv_neT h6 (a := 4) (by decide); have qh7 := lv_neT h7 (a := 5) (by decide); have qh8 := lv_neT h8 (a := 6) (by decide); omega) (by decide) ?_
                refine lv_lconst (v := 0) hx hb dX9_held_97 (by decide) ?_
                subst hm
                exact eb_lret X hw rfl rfl rfl dX9_held_98

set_option maxHeartbeats 4000000 in
set_option maxRecDepth 100000 in
theorem c_X9_pmp (l : Launch) (D : va_G) (cy : Nat → ClassId) (ad : Nat → Nat) (σ : eb_St) (a0 : Int32) (a1 : Int32)  : eb_M l yX9_pmp (Cond.code yX9_pmp cX9_pmp 3 (some .long) :: wsL_law) 0 0 D 33 cy cL ad σ [.ref (ad 0), .int a0, .int a1] (some (.long (m_X9_pmp σ a0 a1))) σ := by
  refine eb_start (own := RX9) (by decide) rfl rfl (Nat.le_of_ble_eq_true rfl) ?_
  intro p e s m args below meth c A ls X hw hl
  have hl : lv_has ls 3 [(0, .ref (ad 0)), (1, .int a0), (2, .int a1)] := hl
  have hx := X.1.1
  have hb := X.1.2.1
  have hown := X.1.2.2.2.1
  have hts := X.1.2.2.2.2
  generalize hm : m_X9_pmp σ a0 a1 = mm
  have hm : (if a0 < 0 then 0 else (if a0 < 16 then (if a1 = 0 then (σ.1 4 a0.toNatClampNeg).toInt64 else if a1 = 1 then σ.2 5 a0.toNatClampNeg else 0) else 0)) = mm := hm
  refine lv_iload_n hx hb dX9_pmp_0 rfl (lv_at hl 1 rfl) ?_
  refine lv_if_lt (tgt := 10) hx hb dX9_pmp_1 (by decide) (fun h1 => ?_) (fun h1 => ?_)
  · have hm := (if_pos h1).symm.trans hm
    refine lv_lconst (v := 0) hx hb dX9_pmp_10 (by decide) ?_
    subst hm
    exact eb_lret X hw rfl rfl rfl dX9_pmp_11
  · have hm := (if_neg h1).symm.trans hm
    refine lv_iload_n hx hb dX9_pmp_4 rfl (lv_at hl 1 rfl) ?_
    refine lv_bipush (v := 16) hx hb dX9_pmp_5 (by decide) ?_
    refine lv_icmp_lt (tgt := 12) hx hb dX9_pmp_7 (by decide) (fun h2 => ?_) (fun h2 => ?_)
    · have hm := (if_pos h2).symm.trans hm
      refine lv_iload_n hx hb dX9_pmp_12 rfl (lv_at hl 2 rfl) ?_
      by_cases h3 : a1 = 0
      · have hm := (if_pos h3).symm.trans hm
        refine lv_lookup (off := 27) (tgt := 40) hx hb dX9_pmp_13 (by decide) (by rw [h3]; decide) (by decide) ?_
        refine lv_aload_n hx hb dX9_pmp_40 rfl (lv_at hl 0 rfl) ?_
        refine eb_get (T := TX9) X hw 0 1 (by decide) ⟨rfl, rfl, rfl⟩ (by decide) (fun _ h => List.mem_cons_of_mem _ (inlX9 _ h)) (List.mem_cons_of_mem _ wi_2_0) (v := .ref (ad 3)) rfl dX9_pmp_41 ?_
        refine eb_getN (T := TX6) X hw 3 0 (by decide) ⟨rfl, rfl, rfl⟩ (by decide) (fun _ h => List.mem_cons_of_mem _ (inlX6 _ h)) X.2.1.2.1 (v := .ref (ad 4)) rfl dX9_pmp_44 ?_
        refine lv_iload_n hx hb dX9_pmp_47 rfl (lv_at hl 1 rfl) ?_
        refine eb_iald (n := 16) X hw 4 (by decide) rfl rfl (eb_rng (eb_nlt h1) h2 (by decide) (by decide)) dX9_pmp_48 ?_
        refine lv_i2l (v := (σ.1 4 a0.toNatClampNeg).toInt64) hx hb dX9_pmp_49 rfl ?_
        subst hm
        exact eb_lret X hw rfl rfl rfl dX9_pmp_50
      · have hm := (if_neg h3).symm.trans hm
        by_cases h4 : a1 = 1
        · have hm := (if_pos h4).symm.trans hm
          refine lv_lookup (off := 38) (tgt := 51) hx hb dX9_pmp_13 (by decide) (by rw [h4]; decide) (by decide) ?_
          refine lv_aload_n hx hb dX9_pmp_51 rfl (lv_at hl 0 rfl) ?_
          refine eb_get (T := TX9) X hw 0 1 (by decide) ⟨rfl, rfl, rfl⟩ (by decide) (fun _ h => List.mem_cons_of_mem _ (inlX9 _ h)) (List.mem_cons_of_mem _ wi_2_0) (v := .ref (ad 3)) rfl dX9_pmp_52 ?_
          refine eb_getN (T := TX6) X hw 3 1 (by decide) ⟨rfl, rfl, rfl⟩ (by decide) (fun _ h => List.mem_cons_of_mem _ (inlX6 _ h)) X.2.1.2.2.2 (v := .ref (ad 5)) rfl dX9_pmp_55 ?_
          refine lv_iload_n hx hb dX9_pmp_58 rfl (lv_at hl 1 rfl) ?_
          refine eb_lald (n := 16) X hw 5 (by decide) rfl rfl (eb_rng (eb_nlt h1) h2 (by decide) (by decide)) dX9_pmp_59 ?_
          subst hm
          exact eb_lret X hw rfl rfl rfl dX9_pmp_60
        · have hm := (if_neg h4).symm.trans hm
          refine lv_lookup (off := 48) (tgt := 61) hx hb dX9_pmp_13 (by decide) (by show Op.lookupswitch.offset [(0, 27), (1, 38)] _ _ = _; rw [lv_osw h3 (by decide)]; rw [lv_osw h4 (by decide)]; rfl) (by decide) ?_
          refine lv_lconst (v := 0) hx hb dX9_pmp_61 (by decide) ?_
          subst hm
          exact eb_lret X hw rfl rfl rfl dX9_pmp_62
    · have hm := (if_neg h2).symm.trans hm
      refine lv_lconst (v := 0) hx hb dX9_pmp_10 (by decide) ?_
      subst hm
      exact eb_lret X hw rfl rfl rfl dX9_pmp_11

set_option maxHeartbeats 4000000 in
set_option maxRecDepth 100000 in
theorem c_X9_enclave (l : Launch) (D : va_G) (cy : Nat → ClassId) (ad : Nat → Nat) (σ : eb_St) (a0 : Int32) (a1 : Int32)  : eb_M l yX9_enclave (Cond.code yX9_enclave cX9_enclave 3 (some .int) :: wsL_law) 1 21 D 33 cy cL ad σ [.ref (ad 0), .int a0, .int a1] (some (.int (m_X9_enclave σ a0 a1))) σ := by
  refine eb_start (own := RX9) (by decide) rfl rfl (Nat.le_of_ble_eq_true rfl) ?_
  intro p e s m args below meth c A ls X hw hl
  have hl : lv_has ls 3 [(0, .ref (ad 0)), (1, .int a0), (2, .int a1)] := hl
  have hx := X.1.1
  have hb := X.1.2.1
  have hown := X.1.2.2.2.1
  have hts := X.1.2.2.2.2
  generalize hm : m_X9_enclave σ a0 a1 = mm
  have hm : (if a0 < 0 then 0 else (if a0 < 6 then (fun (z4 : Int32) => z4) (m_X2_fact σ a0.toNatClampNeg a1) else 0)) = mm := hm
  refine lv_iload_n hx hb dX9_enclave_0 rfl (lv_at hl 1 rfl) ?_
  refine lv_if_lt (tgt := 10) hx hb dX9_enclave_1 (by decide) (fun h1 => ?_) (fun h1 => ?_)
  · have hm := (if_pos h1).symm.trans hm
    refine lv_iconst (v := 0) hx hb dX9_enclave_10 (by decide) ?_
    refine lv_goto (tgt := 27) hx hb dX9_enclave_11 (by decide) ?_
    subst hm
    exact eb_iret X hw rfl rfl rfl dX9_enclave_27
  · have hm := (if_neg h1).symm.trans hm
    refine lv_iload_n hx hb dX9_enclave_4 rfl (lv_at hl 1 rfl) ?_
    refine lv_bipush (v := 6) hx hb dX9_enclave_5 (by decide) ?_
    refine lv_icmp_lt (tgt := 14) hx hb dX9_enclave_7 (by decide) (fun h2 => ?_) (fun h2 => ?_)
    · have hm := (if_pos h2).symm.trans hm
      refine lv_aload_n hx hb dX9_enclave_14 rfl (lv_at hl 0 rfl) ?_
      refine eb_get (T := TX9) X hw 0 5 (by decide) ⟨rfl, rfl, rfl⟩ (by decide) (fun _ h => List.mem_cons_of_mem _ (inlX9 _ h)) (List.mem_cons_of_mem _ wi_2_16) (v := .ref (ad 10)) rfl dX9_enclave_15 ?_
      refine eb_get (T := TX5) X hw 10 5 (by decide) ⟨rfl, rfl, rfl⟩ (by decide) (fun _ h => List.mem_cons_of_mem _ (inlX5 _ h)) (List.mem_cons_of_mem _ wi_40_18) (v := .ref (ad 12)) rfl dX9_enclave_18 ?_
      refine lv_iload_n hx hb dX9_enclave_21 rfl (lv_at hl 1 rfl) ?_
      have b3 : a0.toNatClampNeg < 6 := Nat.not_le.mp (fun q => (show vp_in a0 6 from (eb_rng (eb_nlt h1) h2 (by decide) (by decide))) (Or.inr q))
      refine eb_aald (n := 6) X hw 12 (by decide) rfl rfl (eb_rng (eb_nlt h1) h2 (by decide) (by decide)) (a := 13 + a0.toNatClampNeg) rfl dX9_enclave_22 ?_
      refine lv_iload_n hx hb dX9_enclave_23 rfl (lv_at hl 2 rfl) ?_
      obtain ⟨z4, qz4⟩ : ∃ t : Int32, t = m_X2_fact σ a0.toNatClampNeg a1 := ⟨_, rfl⟩
      have hm : z4 = mm := by rw [qz4]; exact hm
      have hc : eb_M l yX2_fact (Cond.code yX2_fact cX2_fact 2 (some .int) :: wsL_law) 0 0 D 33 cy cL ad σ [.ref (ad (13 + a0.toNatClampNeg)), .int a1] (some (.int z4)) σ := by rw [qz4]; exact c_X2_fact l D cy ad σ a0.toNatClampNeg a1 (by omega)
      refine eb_callV (n := 1) (as := [.int a1]) (rest := []) X hw hl.1 (13 + a0.toNatClampNeg) hc (by omega) (cE_i (by omega)) (eb_goodV wi_40_19 wi_40_20 wi_40_21 wi_4_17 wi_40_22) rfl (by decide +kernel) ⟨by decide, by decide⟩ rfl rfl (Nat.le_of_ble_eq_true rfl) dX9_enclave_24 ⟨by decide, by decide⟩ (st' := [.int z4]) rfl (fun H locs hw => ?_)
      subst hm
      exact eb_iret X hw rfl rfl rfl dX9_enclave_27
    · have hm := (if_neg h2).symm.trans hm
      refine lv_iconst (v := 0) hx hb dX9_enclave_10 (by decide) ?_
      refine lv_goto (tgt := 27) hx hb dX9_enclave_11 (by decide) ?_
      subst hm
      exact eb_iret X hw rfl rfl rfl dX9_enclave_27

set_option maxHeartbeats 4000000 in
set_option maxRecDepth 100000 in
theorem c_X9_eye (l : Launch) (D : va_G) (cy : Nat → ClassId) (ad : Nat → Nat) (σ : eb_St) (a0 : Int32) (a1 : Int32)  : eb_M l yX9_eye (Cond.code yX9_eye cX9_eye 5 (some .long) :: wsL_law) 2 42 D 33 cy cL ad σ [.ref (ad 0), .int a0, .int a1] (some (.long (m_X9_eye σ a0 a1))) σ := by
  refine eb_start (own := RX9) (by decide) rfl rfl (Nat.le_of_ble_eq_true rfl) ?_
  intro p e s m args below meth c A ls X hw hl
  have hl : lv_has ls 5 [(0, .ref (ad 0)), (1, .int a0), (2, .int a1)] := hl
  have hx := X.1.1
  have hb := X.1.2.1
  have hown := X.1.2.2.2.1
  have hts := X.1.2.2.2.2
  generalize hm : m_X9_eye σ a0 a1 = mm
  have hm : (if a0 < 0 then 0 else (if (6 : Int32) ≤ a0 then 0 else (if 0 ≤ a1 then (if (σ.1 (13 + a0.toNatClampNeg) 1) = 0 then 0 else (if (32 : Int32) ≤ a1 then (if a1 = 32 then σ.2 (19 + a0.toNatClampNeg) 1 else if a1 = 33 then σ.2 (13 + a0.toNatClampNeg) 9 else if a1 = 34 then σ.2 (13 + a0.toNatClampNeg) 10 else (fun (x10 : Int32) => (if ((σ.1 (13 + a0.toNatClampNeg) 3) / 8) ≤ x10 then 0 else (fun (z12 : Int64) => z12) (m_X4_load σ ((σ.1 (13 + a0.toNatClampNeg) 2) + (8 * x10)) 8))) (a1 - 35)) else (fun (z13 : Int64) => z13) (m_X7_get σ a0.toNatClampNeg a1))) else 0))) = mm := hm
  refine lv_iload_n hx hb dX9_eye_0 rfl (lv_at hl 1 rfl) ?_
  refine lv_if_lt (tgt := 14) hx hb dX9_eye_1 (by decide) (fun h1 => ?_) (fun h1 => ?_)
  · have hm := (if_pos h1).symm.trans hm
    refine lv_lconst (v := 0) hx hb dX9_eye_14 (by decide) ?_
    subst hm
    exact eb_lret X hw rfl rfl rfl dX9_eye_15
  · have hm := (if_neg h1).symm.trans hm
    refine lv_iload_n hx hb dX9_eye_4 rfl (lv_at hl 1 rfl) ?_
    refine lv_bipush (v := 6) hx hb dX9_eye_5 (by decide) ?_
    refine lv_icmp_ge (tgt := 14) hx hb dX9_eye_7 (by decide) (fun h2 => ?_) (fun h2 => ?_)
    · have hm := (if_pos h2).symm.trans hm
      refine lv_lconst (v := 0) hx hb dX9_eye_14 (by decide) ?_
      subst hm
      exact eb_lret X hw rfl rfl rfl dX9_eye_15
    · have hm := (if_neg h2).symm.trans hm
      refine lv_iload_n hx hb dX9_eye_10 rfl (lv_at hl 2 rfl) ?_
      refine lv_if_ge (tgt := 16) hx hb dX9_eye_11 (by decide) (fun h3 => ?_) (fun h3 => ?_)
      · have hm := (if_pos h3).symm.trans hm
        refine lv_aload_n hx hb dX9_eye_16 rfl (lv_at hl 0 rfl) ?_
        refine eb_get (T := TX9) X hw 0 5 (by decide) ⟨rfl, rfl, rfl⟩ (by decide) (fun _ h => List.mem_cons_of_mem _ (inlX9 _ h)) (List.mem_cons_of_mem _ wi_2_16) (v := .ref (ad 10)) rfl dX9_eye_17 ?_
        refine eb_get (T := TX5) X hw 10 5 (by decide) ⟨rfl, rfl, rfl⟩ (by decide) (fun _ h => List.mem_cons_of_mem _ (inlX5 _ h)) (List.mem_cons_of_mem _ wi_40_18) (v := .ref (ad 12)) rfl dX9_eye_20 ?_
        refine lv_iload_n hx hb dX9_eye_23 rfl (lv_at hl 1 rfl) ?_
        have b4 : a0.toNatClampNeg < 6 := Nat.not_le.mp (fun q => (show vp_in a0 6 from (eb_rng (eb_nlt h1) (eb_nle h2) (by decide) (by decide))) (Or.inr q))
        refine eb_aald (n := 6) X hw 12 (by decide) rfl rfl (eb_rng (eb_nlt h1) (eb_nle h2) (by decide) (by decide)) (a := 13 + a0.toNatClampNeg) rfl dX9_eye_24 ?_
        refine lv_astore_n (lv' := [(3, .ref (ad (13 + a0.toNatClampNeg))), (0, .ref (ad 0)), (1, .int a0), (2, .int a1)]) hx hb dX9_eye_25 rfl hl (by decide) rfl (fun ls hl => ?_)
        refine lv_aload_n hx hb dX9_eye_26 rfl (lv_at hl 0 rfl) ?_
        refine eb_get (T := TX2) X hw (13 + a0.toNatClampNeg) 1 (by omega) (cE_i (by omega)) (by decide) (fun _ h => List.mem_cons_of_mem _ (inlX2 _ h)) (List.mem_cons_of_mem _ wi_41_7) (v := .int (σ.1 (13 + a0.toNatClampNeg) 1)) (eb_sI (cE_t (by omega) 1)) dX9_eye_27 ?_
        refine lv_if_ne (tgt := 35) hx hb dX9_eye_30 (by decide) (fun h5 => ?_) (fun h5 => ?_)
        · have hm := (if_neg h5).symm.trans hm
          refine lv_iload_n hx hb dX9_eye_35 rfl (lv_at hl 3 rfl) ?_
          refine lv_bipush (v := 32) hx hb dX9_eye_36 (by decide) ?_
          refine lv_icmp_ge (tgt := 50) hx hb dX9_eye_38 (by decide) (fun h6 => ?_) (fun h6 => ?_)
          · have hm := (if_pos h6).symm.trans hm
            refine lv_iload_n hx hb dX9_eye_50 rfl (lv_at hl 3 rfl) ?_
            by_cases h7 : a1 = 32
            · have hm := (if_pos h7).symm.trans hm
              refine lv_tableIn (off := 25) (tgt := 76) hx hb dX9_eye_51 (by rw [h7]; decide) (by rw [h7]; decide) (by rw [h7]; rfl) (by decide) ?_
              refine lv_aload_n hx hb dX9_eye_76 rfl (lv_at hl 0 rfl) ?_
              refine eb_get (T := TX2) X hw (13 + a0.toNatClampNeg) 0 (by omega) (cE_i (by omega)) (by decide) (fun _ h => List.mem_cons_of_mem _ (inlX2 _ h)) (List.mem_cons_of_mem _ wi_41_8) (v := .ref (ad (19 + a0.toNatClampNeg))) (eb_sR (cE_t (by omega) 0) (cE_g (by omega))) dX9_eye_77 ?_
              refine eb_get (T := TX7) X hw (19 + a0.toNatClampNeg) 1 (by omega) (cR_i (by omega)) (by decide) (fun _ h => List.mem_cons_of_mem _ (inlX7 _ h)) (List.mem_cons_of_mem _ wi_22_20) (v := .long (σ.2 (19 + a0.toNatClampNeg) 1)) (eb_sJ (cR_t (by omega) 1)) dX9_eye_80 ?_
              subst hm
              exact eb_lret X hw rfl rfl rfl dX9_eye_83
            · have hm := (if_neg h7).symm.trans hm
              by_cases h8 : a1 = 33
              · have hm := (if_pos h8).symm.trans hm
                refine lv_tableIn (off := 33) (tgt := 84) hx hb dX9_eye_51 (by rw [h8]; decide) (by rw [h8]; decide) (by rw [h8]; rfl) (by decide) ?_
                refine lv_aload_n hx hb dX9_eye_84 rfl (lv_at hl 0 rfl) ?_
                refine eb_get (T := TX2) X hw (13 + a0.toNatClampNeg) 9 (by omega) (cE_i (by omega)) (by decide) (fun _ h => List.mem_cons_of_mem _ (inlX2 _ h)) (List.mem_cons_of_mem _ wi_41_9) (v := .long (σ.2 (13 + a0.toNatClampNeg) 9)) (eb_sJ (cE_t (by omega) 9)) dX9_eye_85 ?_
                subst hm
                exact eb_lret X hw rfl rfl rfl dX9_eye_88
              · have hm := (if_neg h8).symm.trans hm
                by_cases h9 : a1 = 34
                · have hm := (if_pos h9).symm.trans hm
                  refine lv_tableIn (off := 38) (tgt := 89) hx hb dX9_eye_51 (by rw [h9]; decide) (by rw [h9]; decide) (by rw [h9]; rfl) (by decide) ?_
                  refine lv_aload_n hx hb dX9_eye_89 rfl (lv_at hl 0 rfl) ?_
                  refine eb_get (T := TX2) X hw (13 + a0.toNatClampNeg) 10 (by omega) (cE_i (by omega)) (by decide) (fun _ h => List.mem_cons_of_mem _ (inlX2 _ h)) (List.mem_cons_of_mem _ wi_41_10) (v := .long (σ.2 (13 + a0.toNatClampNeg) 10)) (eb_sJ (cE_t (by omega) 10)) dX9_eye_90 ?_
                  subst hm
                  exact eb_lret X hw rfl rfl rfl dX9_eye_93
                · have hm := (if_neg h9).symm.trans hm
                  refine lv_tableOut (tgt := 94) hx hb dX9_eye_51 (by have qh7 := lv_neT h7 (a := 32) (by decide); have qh8 := lv_neT h8 (a := 33) (by decide); have qh9 := lv_neT h9 (a := 34) (by decide); omega) (by decide) ?_
                  refine lv_iload_n hx hb dX9_eye_94 rfl (lv_at hl 3 rfl) ?_
                  refine lv_bipush (v := 35) hx hb dX9_eye_95 (by decide) ?_
                  refine lv_isub hx hb dX9_eye_97 ?_
                  refine lv_topi (fun x10 ex10 => ?_)
                  have hm : (if ((σ.1 (13 + a0.toNatClampNeg) 3) / 8) ≤ x10 then 0 else (fun (z12 : Int64) => z12) (m_X4_load σ ((σ.1 (13 + a0.toNatClampNeg) 2) + (8 * x10)) 8)) = mm := by rw [ex10]; exact hm
                  refine lv_istore (lv' := [(4, .int x10), (3, .ref (ad (13 + a0.toNatClampNeg))), (0, .ref (ad 0)), (1, .int a0), (2, .int a1)]) hx hb dX9_eye_98 hl (by decide) rfl (fun ls hl => ?_)
                  refine lv_iload hx hb dX9_eye_100 (lv_at hl 0 rfl) ?_
                  refine lv_aload_n hx hb dX9_eye_102 rfl (lv_at hl 1 rfl) ?_
                  refine eb_get (T := TX2) X hw (13 + a0.toNatClampNeg) 3 (by omega) (cE_i (by omega)) (by decide) (fun _ h => List.mem_cons_of_mem _ (inlX2 _ h)) (List.mem_cons_of_mem _ wi_41_11) (v := .int (σ.1 (13 + a0.toNatClampNeg) 3)) (eb_sI (cE_t (by omega) 3)) dX9_eye_103 ?_
                  refine lv_bipush (v := 8) hx hb dX9_eye_106 (by decide) ?_
                  refine lv_idiv hx hb dX9_eye_108 (by decide) ?_
                  refine lv_icmp_ge (tgt := 134) hx hb dX9_eye_109 (by decide) (fun h11 => ?_) (fun h11 => ?_)
                  · have hm := (if_pos h11).symm.trans hm
                    refine lv_lconst (v := 0) hx hb dX9_eye_134 (by decide) ?_
                    subst hm
                    exact eb_lret X hw rfl rfl rfl dX9_eye_135
                  · have hm := (if_neg h11).symm.trans hm
                    refine lv_aload_n hx hb dX9_eye_112 rfl (lv_at hl 2 rfl) ?_
                    refine eb_get (T := TX9) X hw 0 0 (by decide) ⟨rfl, rfl, rfl⟩ (by decide) (fun _ h => List.mem_cons_of_mem _ (inlX9 _ h)) (List.mem_cons_of_mem _ wi_1_20) (v := .ref (ad 1)) rfl dX9_eye_113 ?_
                    refine lv_aload_n hx hb dX9_eye_116 rfl (lv_at hl 1 rfl) ?_
                    refine eb_get (T := TX2) X hw (13 + a0.toNatClampNeg) 2 (by omega) (cE_i (by omega)) (by decide) (fun _ h => List.mem_cons_of_mem _ (inlX2 _ h)) (List.mem_cons_of_mem _ wi_41_12) (v := .int (σ.1 (13 + a0.toNatClampNeg) 2)) (eb_sI (cE_t (by omega) 2)) dX9_eye_117 ?_
                    refine lv_bipush (v := 8) hx hb dX9_eye_120 (by decide) ?_
                    refine lv_iload hx hb dX9_eye_122 (lv_at hl 0 rfl) ?_
                    refine lv_imul hx hb dX9_eye_124 ?_
                    refine lv_iadd hx hb dX9_eye_125 ?_
                    refine lv_bipush (v := 8) hx hb dX9_eye_126 (by decide) ?_
                    obtain ⟨z12, qz12⟩ : ∃ t : Int64, t = m_X4_load σ ((σ.1 (13 + a0.toNatClampNeg) 2) + (8 * x10)) 8 := ⟨_, rfl⟩
                    have hm : z12 = mm := by rw [qz12]; exact hm
                    have hc : eb_M l yX4_load (Cond.code yX4_load cX4_load 3 (some .long) :: wsL_law) 1 20 D 33 cy cL ad σ [.ref (ad 1), .int ((σ.1 (13 + a0.toNatClampNeg) 2) + (8 * x10)), .int 8] (some (.long z12)) σ := by rw [qz12]; exact c_X4_load l D cy ad σ ((σ.1 (13 + a0.toNatClampNeg) 2) + (8 * x10)) 8
                    refine eb_callV (n := 2) (as := [.int ((σ.1 (13 + a0.toNatClampNeg) 2) + (8 * x10)), .int 8]) (rest := []) X hw hl.1 1 hc (by decide) ⟨rfl, rfl, rfl⟩ (eb_goodV wi_11_16 wi_11_17 wi_11_18 wi_1_19 wi_11_19) rfl (by decide +kernel) ⟨by decide, by decide⟩ rfl rfl (Nat.le_of_ble_eq_true rfl) dX9_eye_128 ⟨by decide, by decide⟩ (st' := [.long z12]) rfl (fun H locs hw => ?_)
                    refine lv_goto (tgt := 135) hx hb dX9_eye_131 (by decide) ?_
                    subst hm
                    exact eb_lret X hw rfl rfl rfl dX9_eye_135
          · have hm := (if_neg h6).symm.trans hm
            refine lv_aload_n hx hb dX9_eye_41 rfl (lv_at hl 0 rfl) ?_
            refine eb_get (T := TX2) X hw (13 + a0.toNatClampNeg) 0 (by omega) (cE_i (by omega)) (by decide) (fun _ h => List.mem_cons_of_mem _ (inlX2 _ h)) (List.mem_cons_of_mem _ wi_41_8) (v := .ref (ad (19 + a0.toNatClampNeg))) (eb_sR (cE_t (by omega) 0) (cE_g (by omega))) dX9_eye_42 ?_
            refine lv_iload_n hx hb dX9_eye_45 rfl (lv_at hl 3 rfl) ?_
            obtain ⟨z13, qz13⟩ : ∃ t : Int64, t = m_X7_get σ a0.toNatClampNeg a1 := ⟨_, rfl⟩
            have hm : z13 = mm := by rw [qz13]; exact hm
            have hc : eb_M l yX7_get (Cond.code yX7_get cX7_get 2 (some .long) :: wsL_law) 0 0 D 33 cy cL ad σ [.ref (ad (19 + a0.toNatClampNeg)), .int a1] (some (.long z13)) σ := by rw [qz13]; exact c_X7_get l D cy ad σ a0.toNatClampNeg a1 (by omega)
            refine eb_callV (n := 1) (as := [.int a1]) (rest := []) X hw hl.1 (19 + a0.toNatClampNeg) hc (by omega) (cR_i (by omega)) (eb_goodV wi_39_0 wi_16_5 wi_16_6 wi_2_7 wi_16_7) rfl (by decide +kernel) ⟨by decide, by decide⟩ rfl rfl (Nat.le_of_ble_eq_true rfl) dX9_eye_46 ⟨by decide, by decide⟩ (st' := [.long z13]) rfl (fun H locs hw => ?_)
            subst hm
            exact eb_lret X hw rfl rfl rfl dX9_eye_49
        · have hm := (if_pos h5).symm.trans hm
          refine lv_lconst (v := 0) hx hb dX9_eye_33 (by decide) ?_
          subst hm
          exact eb_lret X hw rfl rfl rfl dX9_eye_34
      · have hm := (if_neg h3).symm.trans hm
        refine lv_lconst (v := 0) hx hb dX9_eye_14 (by decide) ?_
        subst hm
        exact eb_lret X hw rfl rfl rfl dX9_eye_15
