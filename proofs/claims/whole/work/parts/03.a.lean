def m_X4_shift (a0 : Int32) : Int32 := (a0 &&& 7) <<< (3 &&& 31)
set_option maxHeartbeats 4000000 in
set_option maxRecDepth 100000 in
theorem c_X4_shift (l : Launch) (D : va_G) (cy : Nat → ClassId) (ad : Nat → Nat) (σ : eb_St) (a0 : Int32)  : eb_M l yX4_shift (Cond.code yX4_shift cX4_shift 1 (some .int) :: wsL_law) 0 0 D 33 cy cL ad σ [.int a0] (some (.int (m_X4_shift a0))) σ := by
  refine eb_start (own := RX4) (by decide) rfl rfl (Nat.le_of_ble_eq_true rfl) ?_
  intro p e s m args below meth c A ls X hw hl
  have hl : lv_has ls 1 [(0, .int a0)] := hl
  have hx := X.1.1
  have hb := X.1.2.1
  have hown := X.1.2.2.2.1
  have hts := X.1.2.2.2.2
  generalize hm : m_X4_shift a0 = mm
  have hm : (a0 &&& 7) <<< (3 &&& 31) = mm := hm
  refine lv_iload_n hx hb dX4_shift_0 rfl (lv_at hl 0 rfl) ?_
  refine lv_bipush (v := 7) hx hb dX4_shift_1 (by decide) ?_
  refine lv_iand hx hb dX4_shift_3 ?_
  refine lv_iconst (v := 3) hx hb dX4_shift_4 (by decide) ?_
  refine lv_ishl hx hb dX4_shift_5 ?_
  subst hm
  exact eb_iret X hw rfl rfl rfl dX4_shift_6

def m_X4_mask (a0 : Int32) : Int64 := (if a0 < 8 then (eb_lshl 1 (a0 <<< (3 &&& 31))) - 1 else (-1))
set_option maxHeartbeats 4000000 in
set_option maxRecDepth 100000 in
theorem c_X4_mask (l : Launch) (D : va_G) (cy : Nat → ClassId) (ad : Nat → Nat) (σ : eb_St) (a0 : Int32)  : eb_M l yX4_mask (Cond.code yX4_mask cX4_mask 1 (some .long) :: wsL_law) 0 0 D 33 cy cL ad σ [.int a0] (some (.long (m_X4_mask a0))) σ := by
  refine eb_start (own := RX4) (by decide) rfl rfl (Nat.le_of_ble_eq_true rfl) ?_
  intro p e s m args below meth c A ls X hw hl
  have hl : lv_has ls 1 [(0, .int a0)] := hl
  have hx := X.1.1
  have hb := X.1.2.1
  have hown := X.1.2.2.2.1
  have hts := X.1.2.2.2.2
  generalize hm : m_X4_mask a0 = mm
  have hm : (if a0 < 8 then (eb_lshl 1 (a0 <<< (3 &&& 31))) - 1 else (-1)) = mm := hm
  refine lv_iload_n hx hb dX4_mask_0 rfl (lv_at hl 0 rfl) ?_
  refine lv_bipush (v := 8) hx hb dX4_mask_1 (by decide) ?_
  refine lv_icmp_lt (tgt := 12) hx hb dX4_mask_3 (by decide) (fun h1 => ?_) (fun h1 => ?_)
  · have hm := (if_pos h1).symm.trans hm
    refine lv_lconst (v := 1) hx hb dX4_mask_12 (by decide) ?_
    refine lv_iload_n hx hb dX4_mask_13 rfl (lv_at hl 0 rfl) ?_
    refine lv_iconst (v := 3) hx hb dX4_mask_14 (by decide) ?_
    refine lv_ishl hx hb dX4_mask_15 ?_
    refine lv_lshl (v := eb_lshl 1 (a0 <<< (3 &&& 31))) hx hb dX4_mask_16 rfl ?_
    refine lv_lconst (v := 1) hx hb dX4_mask_17 (by decide) ?_
    refine lv_lsub hx hb dX4_mask_18 ?_
    subst hm
    exact eb_lret X hw rfl rfl rfl dX4_mask_19
  · have hm := (if_neg h1).symm.trans hm
    refine lv_ldc2 hx hb hown (hts _ (List.mem_cons_of_mem _ wi_7_12)) dX4_mask_6 ?_
    refine lv_goto (tgt := 19) hx hb dX4_mask_9 (by decide) ?_
    subst hm
    exact eb_lret X hw rfl rfl rfl dX4_mask_19

def m_X4_load (σ : eb_St) (a0 : Int32) (a1 : Int32) : Int64 := (fun (z1 : Int32) => (fun (z2 : Int64) => (eb_lushr (σ.2 2 ((eb_iushr a0 3) &&& 8191).toNatClampNeg) z1) &&& z2) (m_X4_mask a1)) (m_X4_shift a0)
set_option maxHeartbeats 4000000 in
set_option maxRecDepth 100000 in
theorem c_X4_load (l : Launch) (D : va_G) (cy : Nat → ClassId) (ad : Nat → Nat) (σ : eb_St) (a0 : Int32) (a1 : Int32)  : eb_M l yX4_load (Cond.code yX4_load cX4_load 3 (some .long) :: wsL_law) 1 20 D 33 cy cL ad σ [.ref (ad 1), .int a0, .int a1] (some (.long (m_X4_load σ a0 a1))) σ := by
  refine eb_start (own := RX4) (by decide) rfl rfl (Nat.le_of_ble_eq_true rfl) ?_
  intro p e s m args below meth c A ls X hw hl
  have hl : lv_has ls 3 [(0, .ref (ad 1)), (1, .int a0), (2, .int a1)] := hl
  have hx := X.1.1
  have hb := X.1.2.1
  have hown := X.1.2.2.2.1
  have hts := X.1.2.2.2.2
  generalize hm : m_X4_load σ a0 a1 = mm
  have hm : (fun (z1 : Int32) => (fun (z2 : Int64) => (eb_lushr (σ.2 2 ((eb_iushr a0 3) &&& 8191).toNatClampNeg) z1) &&& z2) (m_X4_mask a1)) (m_X4_shift a0) = mm := hm
  refine lv_aload_n hx hb dX4_load_0 rfl (lv_at hl 0 rfl) ?_
  refine eb_get (T := TX4) X hw 1 0 (by decide) ⟨rfl, rfl, rfl⟩ (by decide) (fun _ h => List.mem_cons_of_mem _ (inlX4 _ h)) (List.mem_cons_of_mem _ wi_2_23) (v := .ref (ad 2)) rfl dX4_load_1 ?_
  refine lv_iload_n hx hb dX4_load_4 rfl (lv_at hl 1 rfl) ?_
  refine lv_iconst (v := 3) hx hb dX4_load_5 (by decide) ?_
  refine lv_iushr (v := eb_iushr a0 3) hx hb dX4_load_6 rfl ?_
  refine lv_sipush (v := 8191) hx hb dX4_load_7 (by decide) ?_
  refine lv_iand hx hb dX4_load_10 ?_
  refine eb_lald X hw 2 (by decide) rfl rfl (pk_andIn _ 13 (by decide) (by decide)) dX4_load_11 ?_
  refine lv_iload_n hx hb dX4_load_12 rfl (lv_at hl 1 rfl) ?_
  obtain ⟨z1, qz1⟩ : ∃ t : Int32, t = m_X4_shift a0 := ⟨_, rfl⟩
  have hm : (fun (z2 : Int64) => (eb_lushr (σ.2 2 ((eb_iushr a0 3) &&& 8191).toNatClampNeg) z1) &&& z2) (m_X4_mask a1) = mm := by rw [qz1]; exact hm
  have hc : eb_M l yX4_shift (Cond.code yX4_shift cX4_shift 1 (some .int) :: wsL_law) 0 0 D 33 cy cL ad σ [.int a0] (some (.int z1)) σ := by rw [qz1]; exact c_X4_shift l D cy ad σ a0
  refine eb_callS (n := 1) X hw hl.1 (rest := [.long (σ.2 2 ((eb_iushr a0 3) &&& 8191).toNatClampNeg)]) hc (eb_goodS wi_7_16 wi_7_17 wi_1_19 wi_7_18) rfl (by decide +kernel) ⟨by decide, by decide⟩ rfl rfl (Nat.le_of_ble_eq_true rfl) dX4_load_13 ⟨by decide, by decide⟩ (st' := [.int z1, .long (σ.2 2 ((eb_iushr a0 3) &&& 8191).toNatClampNeg)]) rfl (fun H locs hw => ?_)
  refine lv_lushr (v := eb_lushr (σ.2 2 ((eb_iushr a0 3) &&& 8191).toNatClampNeg) z1) hx hb dX4_load_16 rfl ?_
  refine lv_iload_n hx hb dX4_load_17 rfl (lv_at hl 2 rfl) ?_
  obtain ⟨z2, qz2⟩ : ∃ t : Int64, t = m_X4_mask a1 := ⟨_, rfl⟩
  have hm : (eb_lushr (σ.2 2 ((eb_iushr a0 3) &&& 8191).toNatClampNeg) z1) &&& z2 = mm := by rw [qz2]; exact hm
  have hc : eb_M l yX4_mask (Cond.code yX4_mask cX4_mask 1 (some .long) :: wsL_law) 0 0 D 33 cy cL ad σ [.int a1] (some (.long z2)) σ := by rw [qz2]; exact c_X4_mask l D cy ad σ a1
  refine eb_callS (n := 1) X hw hl.1 (rest := [.long (eb_lushr (σ.2 2 ((eb_iushr a0 3) &&& 8191).toNatClampNeg) z1)]) hc (eb_goodS wi_7_13 wi_7_14 wi_1_19 wi_7_15) rfl (by decide +kernel) ⟨by decide, by decide⟩ rfl rfl (Nat.le_of_ble_eq_true rfl) dX4_load_18 ⟨by decide, by decide⟩ (st' := [.long z2, .long (eb_lushr (σ.2 2 ((eb_iushr a0 3) &&& 8191).toNatClampNeg) z1)]) rfl (fun H locs hw => ?_)
  refine lv_land hx hb dX4_load_21 ?_
  subst hm
  exact eb_lret X hw rfl rfl rfl dX4_load_22

def m_X4_store (σ : eb_St) (a0 : Int32) (a1 : Int32) (a2 : Int64) : eb_St := (fun (x1 : Int32) => (fun (z2 : Int64) => (fun (z3 : Int32) => (fun (x4 : Int64) => (fun (z5 : Int32) => (fun (x6 : Int64) => eb_pJ σ 2 x1.toNatClampNeg x6) (((σ.2 2 x1.toNatClampNeg) &&& (x4 ^^^ (-1))) ||| ((eb_lshl a2 z5) &&& x4))) (m_X4_shift a0)) (eb_lshl z2 z3)) (m_X4_shift a0)) (m_X4_mask a1)) ((eb_iushr a0 3) &&& 8191)
set_option maxHeartbeats 4000000 in
set_option maxRecDepth 100000 in
theorem c_X4_store (l : Launch) (D : va_G) (cy : Nat → ClassId) (ad : Nat → Nat) (σ : eb_St) (a0 : Int32) (a1 : Int32) (a2 : Int64)  : eb_M l yX4_store (Cond.code yX4_store cX4_store 8 none :: wsL_law) 1 20 D 33 cy cL ad σ [.ref (ad 1), .int a0, .int a1, .long a2] (none) (m_X4_store σ a0 a1 a2) := by
  refine eb_start (own := RX4) (by decide) rfl rfl (Nat.le_of_ble_eq_true rfl) ?_
  intro p e s m args below meth c A ls X hw hl
  have hl : lv_has ls 8 [(0, .ref (ad 1)), (1, .int a0), (2, .int a1), (3, .long a2)] := hl
  have hx := X.1.1
  have hb := X.1.2.1
  have hown := X.1.2.2.2.1
  have hts := X.1.2.2.2.2
  generalize hm : m_X4_store σ a0 a1 a2 = mm
  have hm : (fun (x1 : Int32) => (fun (z2 : Int64) => (fun (z3 : Int32) => (fun (x4 : Int64) => (fun (z5 : Int32) => (fun (x6 : Int64) => eb_pJ σ 2 x1.toNatClampNeg x6) (((σ.2 2 x1.toNatClampNeg) &&& (x4 ^^^ (-1))) ||| ((eb_lshl a2 z5) &&& x4))) (m_X4_shift a0)) (eb_lshl z2 z3)) (m_X4_shift a0)) (m_X4_mask a1)) ((eb_iushr a0 3) &&& 8191) = mm := hm
  refine lv_iload_n hx hb dX4_store_0 rfl (lv_at hl 1 rfl) ?_
  refine lv_iconst (v := 3) hx hb dX4_store_1 (by decide) ?_
  refine lv_iushr (v := eb_iushr a0 3) hx hb dX4_store_2 rfl ?_
  refine lv_sipush (v := 8191) hx hb dX4_store_3 (by decide) ?_
  refine lv_iand hx hb dX4_store_6 ?_
  refine lv_topi (fun x1 ex1 => ?_)
  have hm : (fun (z2 : Int64) => (fun (z3 : Int32) => (fun (x4 : Int64) => (fun (z5 : Int32) => (fun (x6 : Int64) => eb_pJ σ 2 x1.toNatClampNeg x6) (((σ.2 2 x1.toNatClampNeg) &&& (x4 ^^^ (-1))) ||| ((eb_lshl a2 z5) &&& x4))) (m_X4_shift a0)) (eb_lshl z2 z3)) (m_X4_shift a0)) (m_X4_mask a1) = mm := by rw [ex1]; exact hm
  refine lv_istore (lv' := [(5, .int x1), (0, .ref (ad 1)), (1, .int a0), (2, .int a1), (3, .long a2)]) hx hb dX4_store_7 hl (by decide) rfl (fun ls hl => ?_)
  refine lv_iload_n hx hb dX4_store_9 rfl (lv_at hl 3 rfl) ?_
  obtain ⟨z2, qz2⟩ : ∃ t : Int64, t = m_X4_mask a1 := ⟨_, rfl⟩
  have hm : (fun (z3 : Int32) => (fun (x4 : Int64) => (fun (z5 : Int32) => (fun (x6 : Int64) => eb_pJ σ 2 x1.toNatClampNeg x6) (((σ.2 2 x1.toNatClampNeg) &&& (x4 ^^^ (-1))) ||| ((eb_lshl a2 z5) &&& x4))) (m_X4_shift a0)) (eb_lshl z2 z3)) (m_X4_shift a0) = mm := by rw [qz2]; exact hm
  have hc : eb_M l yX4_mask (Cond.code yX4_mask cX4_mask 1 (some .long) :: wsL_law) 0 0 D 33 cy cL ad σ [.int a1] (some (.long z2)) σ := by rw [qz2]; exact c_X4_mask l D cy ad σ a1
  refine eb_callS (n := 1) X hw hl.1 (rest := []) hc (eb_goodS wi_7_13 wi_7_14 wi_1_19 wi_7_15) rfl (by decide +kernel) ⟨by decide, by decide⟩ rfl rfl (Nat.le_of_ble_eq_true rfl) dX4_store_10 ⟨by decide, by decide⟩ (st' := [.long z2]) rfl (fun H locs hw => ?_)
  refine lv_iload_n hx hb dX4_store_13 rfl (lv_at hl 2 rfl) ?_
  obtain ⟨z3, qz3⟩ : ∃ t : Int32, t = m_X4_shift a0 := ⟨_, rfl⟩
  have hm : (fun (x4 : Int64) => (fun (z5 : Int32) => (fun (x6 : Int64) => eb_pJ σ 2 x1.toNatClampNeg x6) (((σ.2 2 x1.toNatClampNeg) &&& (x4 ^^^ (-1))) ||| ((eb_lshl a2 z5) &&& x4))) (m_X4_shift a0)) (eb_lshl z2 z3) = mm := by rw [qz3]; exact hm
  have hc : eb_M l yX4_shift (Cond.code yX4_shift cX4_shift 1 (some .int) :: wsL_law) 0 0 D 33 cy cL ad σ [.int a0] (some (.int z3)) σ := by rw [qz3]; exact c_X4_shift l D cy ad σ a0
  refine eb_callS (n := 1) X hw hl.1 (rest := [.long z2]) hc (eb_goodS wi_7_16 wi_7_17 wi_1_19 wi_7_18) rfl (by decide +kernel) ⟨by decide, by decide⟩ rfl rfl (Nat.le_of_ble_eq_true rfl) dX4_store_14 ⟨by decide, by decide⟩ (st' := [.int z3, .long z2]) rfl (fun H locs hw => ?_)
  refine lv_lshl (v := eb_lshl z2 z3) hx hb dX4_store_17 rfl ?_
  refine lv_topl (fun x4 ex4 => ?_)
  have hm : (fun (z5 : Int32) => (fun (x6 : Int64) => eb_pJ σ 2 x1.toNatClampNeg x6) (((σ.2 2 x1.toNatClampNeg) &&& (x4 ^^^ (-1))) ||| ((eb_lshl a2 z5) &&& x4))) (m_X4_shift a0) = mm := by rw [ex4]; exact hm
  refine lv_lstore (lv' := [(6, .long x4), (5, .int x1), (0, .ref (ad 1)), (1, .int a0), (2, .int a1), (3, .long a2)]) hx hb dX4_store_18 hl (by decide) rfl (fun ls hl => ?_)
  refine lv_aload_n hx hb dX4_store_20 rfl (lv_at hl 2 rfl) ?_
  refine eb_get (T := TX4) X hw 1 0 (by decide) ⟨rfl, rfl, rfl⟩ (by decide) (fun _ h => List.mem_cons_of_mem _ (inlX4 _ h)) (List.mem_cons_of_mem _ wi_2_23) (v := .ref (ad 2)) rfl dX4_store_21 ?_
  refine lv_iload hx hb dX4_store_24 (lv_at hl 1 rfl) ?_
  refine lv_aload_n hx hb dX4_store_26 rfl (lv_at hl 2 rfl) ?_
  refine eb_get (T := TX4) X hw 1 0 (by decide) ⟨rfl, rfl, rfl⟩ (by decide) (fun _ h => List.mem_cons_of_mem _ (inlX4 _ h)) (List.mem_cons_of_mem _ wi_2_23) (v := .ref (ad 2)) rfl dX4_store_27 ?_
  refine lv_iload hx hb dX4_store_30 (lv_at hl 1 rfl) ?_
  refine eb_lald X hw 2 (by decide) rfl rfl (by assumption) dX4_store_32 ?_
  refine lv_lload hx hb dX4_store_33 (lv_at hl 0 rfl) ?_
  refine lv_ldc2 hx hb hown (hts _ (List.mem_cons_of_mem _ wi_7_12)) dX4_store_35 ?_
  refine lv_lxor hx hb dX4_store_38 ?_
  refine lv_land hx hb dX4_store_39 ?_
  refine lv_lload_n hx hb dX4_store_40 rfl (lv_at hl 5 rfl) ?_
  refine lv_iload_n hx hb dX4_store_41 rfl (lv_at hl 3 rfl) ?_
  obtain ⟨z5, qz5⟩ : ∃ t : Int32, t = m_X4_shift a0 := ⟨_, rfl⟩
  have hm : (fun (x6 : Int64) => eb_pJ σ 2 x1.toNatClampNeg x6) (((σ.2 2 x1.toNatClampNeg) &&& (x4 ^^^ (-1))) ||| ((eb_lshl a2 z5) &&& x4)) = mm := by rw [qz5]; exact hm
  have hc : eb_M l yX4_shift (Cond.code yX4_shift cX4_shift 1 (some .int) :: wsL_law) 0 0 D 33 cy cL ad σ [.int a0] (some (.int z5)) σ := by rw [qz5]; exact c_X4_shift l D cy ad σ a0
  refine eb_callS (n := 1) X hw hl.1 (rest := [.long a2, .long ((σ.2 2 x1.toNatClampNeg) &&& (x4 ^^^ (-1))), .int x1, .ref (ad 2)]) hc (eb_goodS wi_7_16 wi_7_17 wi_1_19 wi_7_18) rfl (by decide +kernel) ⟨by decide, by decide⟩ rfl rfl (Nat.le_of_ble_eq_true rfl) dX4_store_42 ⟨by decide, by decide⟩ (st' := [.int z5, .long a2, .long ((σ.2 2 x1.toNatClampNeg) &&& (x4 ^^^ (-1))), .int x1, .ref (ad 2)]) rfl (fun H locs hw => ?_)
  refine lv_lshl (v := eb_lshl a2 z5) hx hb dX4_store_45 rfl ?_
  refine lv_lload hx hb dX4_store_46 (lv_at hl 0 rfl) ?_
  refine lv_land hx hb dX4_store_48 ?_
  refine lv_lor hx hb dX4_store_49 ?_
  refine lv_topl (fun x6 ex6 => ?_)
  have hm : eb_pJ σ 2 x1.toNatClampNeg x6 = mm := by rw [ex6]; exact hm
  refine eb_last X hw 2 (by decide) rfl rfl (by assumption) dX4_store_50 (fun H locs hw => ?_)
  subst hm
  exact eb_vret X hw rfl rfl dX4_store_51

def m_X7_get (σ : eb_St) (r : Nat) (a0 : Int32) : Int64 := σ.2 (26 + r) (a0 &&& 31).toNatClampNeg
set_option maxHeartbeats 4000000 in
set_option maxRecDepth 100000 in
theorem c_X7_get (l : Launch) (D : va_G) (cy : Nat → ClassId) (ad : Nat → Nat) (σ : eb_St) (r : Nat) (a0 : Int32) (br : r < 7) : eb_M l yX7_get (Cond.code yX7_get cX7_get 2 (some .long) :: wsL_law) 0 0 D 33 cy cL ad σ [.ref (ad (19 + r)), .int a0] (some (.long (m_X7_get σ r a0))) σ := by
  refine eb_start (own := RX7) (by decide) rfl rfl (Nat.le_of_ble_eq_true rfl) ?_
  intro p e s m args below meth c A ls X hw hl
  have hl : lv_has ls 2 [(0, .ref (ad (19 + r))), (1, .int a0)] := hl
  have hx := X.1.1
  have hb := X.1.2.1
  have hown := X.1.2.2.2.1
  have hts := X.1.2.2.2.2
  generalize hm : m_X7_get σ r a0 = mm
  have hm : σ.2 (26 + r) (a0 &&& 31).toNatClampNeg = mm := hm
  refine lv_aload_n hx hb dX7_get_0 rfl (lv_at hl 0 rfl) ?_
  refine eb_get (T := TX7) X hw (19 + r) 0 (by omega) (cR_i (by omega)) (by decide) (fun _ h => List.mem_cons_of_mem _ (inlX7 _ h)) (List.mem_cons_of_mem _ wi_3_16) (v := .ref (ad (26 + r))) (eb_sR (cR_t (by omega) 0) (cR_g (by omega))) dX7_get_1 ?_
  refine lv_iload_n hx hb dX7_get_4 rfl (lv_at hl 1 rfl) ?_
  refine lv_bipush (v := 31) hx hb dX7_get_5 (by decide) ?_
  refine lv_iand hx hb dX7_get_7 ?_
  refine eb_lald X hw (26 + r) (by omega) (cX_i (by omega)).1 (cX_i (by omega)).2 (pk_andIn _ 5 (by decide) (by decide)) dX7_get_8 ?_
  subst hm
  exact eb_lret X hw rfl rfl rfl dX7_get_9

def m_X7_set (σ : eb_St) (r : Nat) (a0 : Int32) (a1 : Int64) : eb_St := (if (a0 &&& 31) = 0 then σ else eb_pJ σ (26 + r) ((a0 &&& 31).toNatClampNeg) a1)
set_option maxHeartbeats 4000000 in
set_option maxRecDepth 100000 in
theorem c_X7_set (l : Launch) (D : va_G) (cy : Nat → ClassId) (ad : Nat → Nat) (σ : eb_St) (r : Nat) (a0 : Int32) (a1 : Int64) (br : r < 7) : eb_M l yX7_set (Cond.code yX7_set cX7_set 4 none :: wsL_law) 0 0 D 33 cy cL ad σ [.ref (ad (19 + r)), .int a0, .long a1] (none) (m_X7_set σ r a0 a1) := by
  refine eb_start (own := RX7) (by decide) rfl rfl (Nat.le_of_ble_eq_true rfl) ?_
  intro p e s m args below meth c A ls X hw hl
  have hl : lv_has ls 4 [(0, .ref (ad (19 + r))), (1, .int a0), (2, .long a1)] := hl
  have hx := X.1.1
  have hb := X.1.2.1
  have hown := X.1.2.2.2.1
  have hts := X.1.2.2.2.2
  generalize hm : m_X7_set σ r a0 a1 = mm
  have hm : (if (a0 &&& 31) = 0 then σ else eb_pJ σ (26 + r) ((a0 &&& 31).toNatClampNeg) a1) = mm := hm
  refine lv_iload_n hx hb dX7_set_0 rfl (lv_at hl 1 rfl) ?_
  refine lv_bipush (v := 31) hx hb dX7_set_1 (by decide) ?_
  refine lv_iand hx hb dX7_set_3 ?_
  refine lv_if_eq (tgt := 17) hx hb dX7_set_4 (by decide) (fun h1 => ?_) (fun h1 => ?_)
  · have hm := (if_pos h1).symm.trans hm
    subst hm
    exact eb_vret X hw rfl rfl dX7_set_17
  · have hm := (if_neg h1).symm.trans hm
    refine lv_aload_n hx hb dX7_set_7 rfl (lv_at hl 0 rfl) ?_
    refine eb_get (T := TX7) X hw (19 + r) 0 (by omega) (cR_i (by omega)) (by decide) (fun _ h => List.mem_cons_of_mem _ (inlX7 _ h)) (List.mem_cons_of_mem _ wi_3_16) (v := .ref (ad (26 + r))) (eb_sR (cR_t (by omega) 0) (cR_g (by omega))) dX7_set_8 ?_
    refine lv_iload_n hx hb dX7_set_11 rfl (lv_at hl 1 rfl) ?_
    refine lv_bipush (v := 31) hx hb dX7_set_12 (by decide) ?_
    refine lv_iand hx hb dX7_set_14 ?_
    refine lv_lload_n hx hb dX7_set_15 rfl (lv_at hl 2 rfl) ?_
    refine eb_last X hw (26 + r) (by omega) (cX_i (by omega)).1 (cX_i (by omega)).2 (pk_andIn _ 5 (by decide) (by decide)) dX7_set_16 (fun H locs hw => ?_)
    subst hm
    exact eb_vret X hw rfl rfl dX7_set_17

