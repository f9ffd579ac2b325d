def m_X10_interrupt (σ : eb_St)  : eb_St := eb_pI σ 0 14 1

def m_X10_fault (σ : eb_St) (a0 : Int32) (a1 : Int64) : Int32 × eb_St := (a0, eb_pJ σ 0 36 a1)

def m_X10_illegal (σ : eb_St)  : Int32 × eb_St := (fun (z1 : Int32 × eb_St) => (z1.1, z1.2)) (m_X10_fault σ 2 (((σ.1 0 37).toInt64) &&& 4294967295))

def m_X10_isLive (σ : eb_St) (a0 : Int32) : Bool := (if (σ.1 6 a0.toNatClampNeg) = 0 then false else true)

def m_X10_set (σ : eb_St)  : Int32 := (if (σ.1 0 8) < 0 then 6 else σ.1 0 8)
theorem l_X10_set {σ : eb_St} (h : rJ σ) : vp_in (m_X10_set σ) 7 := by
  unfold m_X10_set
  by_cases h1 : σ.1 0 8 < 0
  · rw [if_pos h1]; exact vp_in_iff.mpr ⟨by decide, by decide⟩
  · rw [if_neg h1]
    obtain ⟨q0, q1⟩ := vp_in_iff.mp (rJ_in h h1)
    exact vp_in_iff.mpr ⟨q0, by omega⟩

def m_X10_hostGets (σ : eb_St) (a0 : Int64) (a1 : Int64) : eb_St := eb_pJ (eb_pJ σ 2 ((202 : Int32).toNatClampNeg) a0) 2 ((203 : Int32).toNatClampNeg) a1

def m_X10_isLocked (σ : eb_St) (a0 : Int32) : Bool := (if ((σ.1 4 a0.toNatClampNeg) &&& 128) = 0 then false else true)

def m_X10_in (a0 : Int64) (a1 : Int64) (a2 : Int64) : Bool := (if a0 < a1 then false else (if a2 < a0 then false else true))

def m_X10_napot (a0 : Int32) (a1 : Int32) : Int64 := ((a0.toInt64 / 4) + ((a1 / 8).toInt64)) - 1
theorem eb_nneg {a : Int32} (h : 0 ≤ a.toInt) : ¬ a < 0 := by
  rw [Int32.lt_iff_toInt_lt, show (0 : Int32).toInt = 0 by decide]; omega
theorem l_X10_napot {a b : Int32} (ha : 0 ≤ a.toInt) (hb : 8 ≤ b.toInt) : 0 ≤ (m_X10_napot a b).toInt ∧ (m_X10_napot a b).toInt < 18014398509481984 := by
  obtain ⟨i, hi, rfl⟩ := nI_of (x := a) (eb_nneg ha)
  obtain ⟨j, hj, rfl⟩ := nI_of (x := b) (eb_nneg (by omega))
  rw [nI_toInt hj] at hb
  unfold m_X10_napot
  rw [nI_l hi, show (4 : Int64) = lN 4 by decide, pk_lDiv (by omega) (by omega) (by omega), show (8 : Int32) = nI 8 by decide, pk_div hj (by omega) (by omega), nI_l (by omega), lN_add, show (1 : Int64) = lN 1 by decide, lN_sub (by omega), pk_lT (by omega)]
  omega

def m_X10_isBelow (a0 : Int64) (a1 : Int64) : Bool := (if (a1 + (-9223372036854775808)) ≤ (a0 + (-9223372036854775808)) then false else true)

def m_X10_register (σ : eb_St) (a0 : Int32) : Int64 := (if a0 < 0 then 0 else (if a0 ≤ 31 then σ.2 2 (192 + a0).toNatClampNeg else 0))

def m_X10_isMemory (a0 : Int64) (a1 : Int32) : Bool := (if a0 < 0 then false else (if ((65536 - a1).toInt64) < a0 then false else true))

def m_X10_isPower (a0 : Int64) (a1 : Int64) (a2 : Int64) : Bool := (if a0 < a1 then false else (if a2 < a0 then false else (if (a0 &&& (a0 - 1)) = 0 then true else false)))

def m_X10_isTold (a0 : Int64) (a1 : Int64) : Bool := (if a0 < 0 then false else (if (a0 - a0 / a1 * a1) = 0 then (if (65536 - a1) < a0 then false else true) else false))

def m_X10_meet (a0 : Int64) (a1 : Int64) (a2 : Int64) (a3 : Int64) : Bool := (if a1 ≤ 0 then false else (if a3 ≤ 0 then false else (if (a2 + a3) ≤ a0 then false else (if (a0 + a1) ≤ a2 then false else true))))

def m_X10_jump (σ : eb_St)  : Int64 := ((((((σ.1 0 37) >>> (31 &&& 31)) <<< (20 &&& 31)) ||| ((σ.1 0 37) &&& (1044480 : Int32))) ||| (((σ.1 0 37) >>> (9 &&& 31)) &&& (2048 : Int32))) ||| (((σ.1 0 37) >>> (20 &&& 31)) &&& (2046 : Int32))).toInt64

def m_X10_held (σ : eb_St) (a0 : Int32) : Int64 := (if a0 = 0 then σ.2 3 (6 : Int32).toNatClampNeg else if a0 = 1 then σ.2 0 7 else if a0 = 2 then eb_lshl (σ.2 0 15) 11 else if a0 = 3 then σ.2 0 16 else if a0 = 4 then σ.2 0 17 else if a0 = 5 then σ.2 0 18 else if a0 = 6 then σ.2 0 19 else 0)

def m_X10_key (σ : eb_St) (a0 : Int32) : Int64 := (fun (x1 : Int64) => (fun (x2 : Int64) => (fun (x3 : Int64) => x3 ^^^ (eb_lushr x3 33)) ((x2 ^^^ (eb_lushr x2 33)) * (-4265267296055464877))) ((x1 ^^^ (eb_lushr x1 33)) * (-49064778989728563))) ((σ.2 0 0) ^^^ (σ.2 14 a0.toNatClampNeg))

def m_X10_isCsr (a0 : Int32) : Bool := (if a0 = 768 then true else (fun (z2 : Bool) => (if (eb_b z2) = 0 then (if a0 = 928 then true else (if a0 = 930 then true else (fun (z6 : Bool) => (if (eb_b z6) = 0 then (if a0 = 2818 then true else (if a0 = 3860 then true else false)) else true)) (m_X10_in a0.toInt64 944 959))) else true)) (m_X10_in a0.toInt64 832 835))

def m_X10_state (σ : eb_St) (a0 : Int32) : Int32 := (if a0 = 0 then (if (σ.1 0 4) = 0 then 0 else 3) else if a0 = 1 then σ.1 0 5 else if a0 = 2 then σ.1 0 8 else if a0 = 3 then σ.1 0 6 else if a0 = 4 then σ.1 0 9 else if a0 = 5 then σ.1 0 10 else if a0 = 6 then σ.1 0 11 else if a0 = 7 then σ.1 0 12 else if a0 = 8 then σ.1 0 13 else (-1))

def m_X10_divided (a0 : Int64) (a1 : Int64) : Int64 := (if (0 : Int64) ≤ a1 then (if a0 < 0 then (fun (x3 : Int64) => (fun (z4 : Bool) => (if (eb_b z4) = 0 then x3 + 1 else x3)) (m_X10_isBelow (a0 - (x3 * a1)) a1)) (eb_lshl ((eb_lushr a0 1) / a1) 1) else a0 / a1) else (fun (z6 : Bool) => (if (eb_b z6) = 0 then 1 else 0)) (m_X10_isBelow a0 a1))

def m_X10_upper (a0 : Int64) (a1 : Int64) : Int64 := (fun (x1 : Int64) => (fun (x2 : Int64) => (fun (x3 : Int64) => (fun (x4 : Int64) => (fun (x5 : Int64) => (fun (x6 : Int64) => ((x2 * x4) + (eb_lushr x5 32)) + (eb_lushr x6 32)) ((x1 * x4) + (x5 &&& 4294967295))) ((x2 * x3) + (eb_lushr (x1 * x3) 32))) (eb_lushr a1 32)) (a1 &&& 4294967295)) (eb_lushr a0 32)) (a0 &&& 4294967295)

def m_X10_product_68  (σ : eb_St) (v1 : Int64) (v3 : Int64) (s0 : Int64) (s1 : Int64) : Int64 := (if (0 : Int64) ≤ v3 then (s1 - s0) - 0 else (s1 - s0) - v1)
def m_X10_product (σ : eb_St) (a0 : Int64) (a1 : Int64) : Int64 := (if (σ.1 0 41) = 0 then a0 * a1 else if (σ.1 0 41) = 1 then (fun (z3 : Int64) => (if (0 : Int64) ≤ a0 then m_X10_product_68  σ a0 a1 0 z3 else m_X10_product_68  σ a0 a1 a1 z3)) (m_X10_upper a0 a1) else if (σ.1 0 41) = 2 then (fun (z6 : Int64) => (if (0 : Int64) ≤ a0 then z6 - 0 else z6 - a1)) (m_X10_upper a0 a1) else if (σ.1 0 41) = 3 then (fun (z9 : Int64) => z9) (m_X10_upper a0 a1) else if (σ.1 0 41) = 4 then (if a1 = 0 then (-1) else (if a1 = (-1) then -a0 else a0 / a1)) else if (σ.1 0 41) = 5 then (if a1 = 0 then (-1) else (fun (z15 : Int64) => z15) (m_X10_divided a0 a1)) else if (σ.1 0 41) = 6 then (if a1 = 0 then a0 else (if a1 = (-1) then 0 else a0 - a0 / a1 * a1)) else (if a1 = 0 then a0 else (fun (z20 : Int64) => a0 - (z20 * a1)) (m_X10_divided a0 a1)))

def m_X10_x (σ : eb_St) (a0 : Int32) : Int64 := (fun (z1 : Int32) => σ.2 2 ((32 * z1) + a0).toNatClampNeg) (m_X10_set σ)

def m_X10_give (σ : eb_St) (a0 : Int32) (a1 : Int64) : eb_St := (if a0 = 0 then σ else (fun (z2 : Int32) => eb_pJ σ 2 (((32 * z2) + a0).toNatClampNeg) a1) (m_X10_set σ))

def m_X10_goesOn (σ : eb_St)  : Int32 × eb_St := (fun (z1 : Int32) => ((-1), eb_pJ σ 3 z1.toNatClampNeg ((σ.2 3 z1.toNatClampNeg) + 4))) (m_X10_set σ)

def m_X10_sets (σ : eb_St) (a0 : Int64) : Int32 × eb_St := (fun (z1 : eb_St) => (fun (z2 : Int32 × eb_St) => (z2.1, z2.2)) (m_X10_goesOn z1)) (m_X10_give σ (σ.1 0 38) a0)

def m_X10_jumps (σ : eb_St) (a0 : Int64) (a1 : Int64) : Int32 × eb_St := (if (a0 &&& 3) = 0 then (fun (z2 : eb_St) => (fun (z3 : Int32) => ((-1), eb_pJ z2 3 z3.toNatClampNeg a0)) (m_X10_set z2)) (m_X10_give σ (σ.1 0 38) a1) else (fun (z4 : Int32 × eb_St) => (z4.1, z4.2)) (m_X10_fault σ 0 a0))

def m_X10_clearMemory_2  : Nat → eb_St → Int32 → Int32 → eb_St
  | 0, σ, _, _ => σ
  | n + 1, σ, v1, v2 => (if (σ.1 8 v1.toNatClampNeg) ≤ v2 then σ else (fun (x2 : Int32) => m_X10_clearMemory_2  n (eb_pI σ 1 (((σ.1 7 v1.toNatClampNeg) + v2).toNatClampNeg) (vp_nar .byte 0)) v1 x2) (v2 + 1))
def m_X10_clearMemory (σ : eb_St) (a0 : Int32) : eb_St := m_X10_clearMemory_2  (((σ.1 8 a0.toNatClampNeg).toInt - (0 : Int32).toInt).toNat + 1) σ a0 0

def m_X10_put_3  : Nat → eb_St → Int32 → Int32 → Int64 → Int32 → eb_St
  | 0, σ, _, _, _, _ => σ
  | n + 1, σ, v1, v2, v3, v5 => (if v2 ≤ v5 then σ else (fun (x2 : Int32) => (fun (x3 : Int32) => m_X10_put_3  n (eb_pI σ 1 ((v1 + v5).toNatClampNeg) (vp_nar .byte x2)) v1 v2 v3 x3) (v5 + 1)) (((eb_lshr v3 (8 * v5)).toInt32).toInt8.toInt32))
def m_X10_put (σ : eb_St) (a0 : Int32) (a1 : Int32) (a2 : Int64) : eb_St := m_X10_put_3  ((a1.toInt - (0 : Int32).toInt).toNat + 1) σ a0 a1 a2 0

def m_X10_take_7  : Nat → eb_St → Int32 → Int64 → Int32 → Int64
  | 0, _, _, _, _ => 0
  | n + 1, σ, v1, v3, v5 => (if v5 < 0 then v3 else (fun (x3 : Int64) => (fun (x4 : Int32) => m_X10_take_7  n σ v1 x3 x4) (v5 + (-1))) ((eb_lshl v3 8) ||| (((σ.1 1 (v1 + v5).toNatClampNeg) &&& 255).toInt64)))
def m_X10_take (σ : eb_St) (a0 : Int32) (a1 : Int32) : Int64 := (fun (x1 : Int32) => m_X10_take_7  ((x1.toInt + 1).toNat + 1) σ a0 0 x1) (a1 - 1)

def m_X10_ends (σ : eb_St) (a0 : Int32) (a1 : Int64) (a2 : Int64) : eb_St := (fun (z1 : eb_St) => (if a1 = 1 then eb_pI z1 0 12 ((z1.1 0 12) + 1) else z1)) (m_X10_hostGets (eb_pI (eb_pI (eb_pI σ 6 ((σ.1 0 8).toNatClampNeg) a0) 0 8 (-1)) 0 35 0) a1 a2)

def m_X10_byteOf (σ : eb_St) (a0 : Int32) : Int32 := (if (6 : Int32) ≤ a0 then (if a0 = 6 then (if (σ.1 0 8) < 0 then 0 else (if (σ.1 11 (σ.1 0 8).toNatClampNeg) ≤ 0 then 0 else 27)) else (if a0 = 7 then (if (σ.1 0 8) < 0 then 0 else 24) else σ.1 4 a0.toNatClampNeg)) else (fun (z7 : Bool) => (if (eb_b z7) = 0 then 0 else (if a0 = (σ.1 0 8) then 31 else 24))) (m_X10_isLive σ a0))
theorem l_X10_byteOf6 {σ : eb_St} (h : ¬ m_X10_byteOf σ 6 = 0) : ¬ σ.1 0 8 < 0 := by
  intro q
  apply h
  unfold m_X10_byteOf
  rw [if_pos (show (6 : Int32) ≤ 6 by decide), if_pos (show (6 : Int32) = 6 by decide), if_pos q]

def m_X10_addressOf (σ : eb_St) (a0 : Int32) : Int64 := (if (6 : Int32) ≤ a0 then (if a0 = 6 then (fun (z5 : Int32) => (if z5 = 0 then 0 else (fun (z7 : Int64) => z7) (m_X10_napot (σ.1 10 (σ.1 0 8).toNatClampNeg) (σ.1 11 (σ.1 0 8).toNatClampNeg)))) (m_X10_byteOf σ 6) else (if a0 = 7 then (if (σ.1 0 8) < 0 then 0 else 18014398509481983) else σ.2 5 a0.toNatClampNeg)) else (fun (z8 : Bool) => (if (eb_b z8) = 0 then 0 else (fun (z10 : Int64) => z10) (m_X10_napot (σ.1 7 a0.toNatClampNeg) (σ.1 8 a0.toNatClampNeg)))) (m_X10_isLive σ a0))
theorem l_X10_addressOf {σ : eb_St} {i : Int32} (h : rJ σ) (hi : vp_in i 16) : 0 ≤ (m_X10_addressOf σ i).toInt ∧ (m_X10_addressOf σ i).toInt < 18014398509481984 := by
  unfold m_X10_addressOf
  have z0 : 0 ≤ (0 : Int64).toInt ∧ (0 : Int64).toInt < 18014398509481984 := by decide
  by_cases h1 : (6 : Int32) ≤ i
  · rw [if_pos h1]
    by_cases h2 : i = 6
    · rw [if_pos h2]
      show 0 ≤ (if m_X10_byteOf σ 6 = 0 then 0 else m_X10_napot (σ.1 10 (σ.1 0 8).toNatClampNeg) (σ.1 11 (σ.1 0 8).toNatClampNeg)).toInt ∧ (if m_X10_byteOf σ 6 = 0 then 0 else m_X10_napot (σ.1 10 (σ.1 0 8).toNatClampNeg) (σ.1 11 (σ.1 0 8).toNatClampNeg)).toInt < _
      by_cases h3 : m_X10_byteOf σ 6 = 0
      · rw [if_pos h3]; exact z0
      · rw [if_neg h3]
        have hr := rJ_in h (l_X10_byteOf6 h3)
        have hs := h.2.2.2.2.2.2.2.2.1 _ (eb_lt hr)
        refine l_X10_napot hs.1 (hs.2.resolve_left fun q => h3 ?_)
        unfold m_X10_byteOf
        rw [if_pos (show (6 : Int32) ≤ 6 by decide), if_pos rfl, if_neg (l_X10_byteOf6 h3), if_pos]
        rw [Int32.le_iff_toInt_le, show (0 : Int32).toInt = 0 by decide]; exact q
    · rw [if_neg h2]
      by_cases h3 : i = 7
      · rw [if_pos h3]
        by_cases h4 : σ.1 0 8 < 0
        · rw [if_pos h4]; exact z0
        · rw [if_neg h4]; decide
      · rw [if_neg h3]; exact h.2.2.2.2.2.2.2.2.2 _ (eb_lt hi)
  · rw [if_neg h1]
    show 0 ≤ (if eb_b (m_X10_isLive σ i) = 0 then 0 else m_X10_napot (σ.1 7 i.toNatClampNeg) (σ.1 8 i.toNatClampNeg)).toInt ∧ (if eb_b (m_X10_isLive σ i) = 0 then 0 else m_X10_napot (σ.1 7 i.toNatClampNeg) (σ.1 8 i.toNatClampNeg)).toInt < _
    have h6 := eb_lt (eb_in_lt hi (eb_nle h1) (by decide) (m := 6))
    by_cases h3 : eb_b (m_X10_isLive σ i) = 0
    · rw [if_pos h3]; exact z0
    · rw [if_neg h3]
      refine l_X10_napot (h.2.1 _ h6).1 (h.2.2.2.2.2.2.2.1 _ h6 fun q => h3 ?_)
      unfold m_X10_isLive
      rw [if_pos q]; rfl

def m_X10_bytes_6  : Nat → eb_St → Int32 → Int64 → Int32 → Int64
  | 0, _, _, _, _ => 0
  | n + 1, σ, v1, v2, v4 => (if v4 < 0 then v2 else (fun (z2 : Int32) => (fun (x3 : Int64) => (fun (x4 : Int32) => m_X10_bytes_6  n σ v1 x3 x4) (v4 + (-1))) ((eb_lshl v2 8) ||| z2.toInt64)) (m_X10_byteOf σ (v1 + v4)))
def m_X10_bytes (σ : eb_St) (a0 : Int32) : Int64 := m_X10_bytes_6  (((7 : Int32).toInt + 1).toNat + 1) σ a0 0 7

def m_X10_pmp (σ : eb_St) (a0 : Int32) (a1 : Int32) : Int64 := (if a0 < 0 then 0 else (if a0 ≤ 15 then (if a1 = 0 then (fun (z6 : Int32) => z6.toInt64) (m_X10_byteOf σ a0) else (if a1 = 1 then (fun (z5 : Int64) => z5) (m_X10_addressOf σ a0) else 0)) else 0))
theorem J_X10_interrupt {σ : eb_St}  {mm : eb_St} (hm : m_X10_interrupt σ = mm) (hj_ : rJ σ) : rJ mm := by
  have hm : eb_pI σ 0 14 1 = mm := hm
  subst hm
  exact hj_
set_option maxHeartbeats 4000000 in
set_option maxRecDepth 100000 in
theorem c_X10_interrupt (l : Launch) (D : va_G) (cy : Nat → ClassId) (ad : Nat → Nat) (σ : eb_St)  (hj_ : rJ σ) : eb_M l yX10_interrupt (Cond.code yX10_interrupt cX10_interrupt 1 none :: wsL_law) 0 0 D 18 cy rL ad σ [.ref (ad 0)] (none) (m_X10_interrupt σ) := by
  refine eb_start (own := RX10) (by decide) rfl rfl (Nat.le_of_ble_eq_true rfl) ?_
  intro p e s m args below meth c A ls X hw hl
  have hl : lv_has ls 1 [(0, .ref (ad 0))] := hl
  have hx := X.1.1
  have hb := X.1.2.1
  have hown := X.1.2.2.2.1
  have hts := X.1.2.2.2.2
  generalize hm : m_X10_interrupt σ = mm
  have hm : eb_pI σ 0 14 1 = mm := hm
  refine lv_aload_n hx hb dX10_interrupt_0 rfl (lv_at hl 0 rfl) ?_
  refine lv_iconst (v := 1) hx hb dX10_interrupt_1 (by decide) ?_
  refine eb_putI (T := TX10) X hw 0 14 (by decide) ⟨rfl, rfl, rfl⟩ (by decide) rfl (fun _ h => List.mem_cons_of_mem _ (inlX10 _ h)) (List.mem_cons_of_mem _ wi_9_15) tyX10 tyX10_ok nmX10 rfl rfl rfl dX10_interrupt_2 (fun H locs hw => ?_)
  subst hm
  exact eb_vret X hw rfl rfl dX10_interrupt_5

theorem J_X10_fault {σ : eb_St} {a0 : Int32} {a1 : Int64} {mm : Int32 × eb_St} (hm : m_X10_fault σ a0 a1 = mm) (hj_ : rJ σ) : rJ mm.2 := by
  have hm : (a0, eb_pJ σ 0 36 a1) = mm := hm
  subst hm
  exact hj_
set_option maxHeartbeats 4000000 in
set_option maxRecDepth 100000 in
theorem c_X10_fault (l : Launch) (D : va_G) (cy : Nat → ClassId) (ad : Nat → Nat) (σ : eb_St) (a0 : Int32) (a1 : Int64) (hj_ : rJ σ) : eb_M l yX10_fault (Cond.code yX10_fault cX10_fault 4 (some .int) :: wsL_law) 0 0 D 18 cy rL ad σ [.ref (ad 0), .int a0, .long a1] (some (.int (m_X10_fault σ a0 a1).1)) ((m_X10_fault σ a0 a1).2) := by
  refine eb_start (own := RX10) (by decide) rfl rfl (Nat.le_of_ble_eq_true rfl) ?_
  intro p e s m args below meth c A ls X hw hl
  have hl : lv_has ls 4 [(0, .ref (ad 0)), (1, .int a0), (2, .long a1)] := hl
  have hx := X.1.1
  have hb := X.1.2.1
  have hown := X.1.2.2.2.1
  have hts := X.1.2.2.2.2
  generalize hm : m_X10_fault σ a0 a1 = mm
  have hm : (a0, eb_pJ σ 0 36 a1) = mm := hm
  refine lv_aload_n hx hb dX10_fault_0 rfl (lv_at hl 0 rfl) ?_
  refine lv_lload_n hx hb dX10_fault_1 rfl (lv_at hl 2 rfl) ?_
  refine eb_putJ (T := TX10) X hw 0 36 (by decide) ⟨rfl, rfl, rfl⟩ (by decide) rfl (fun _ h => List.mem_cons_of_mem _ (inlX10 _ h)) (List.mem_cons_of_mem _ wi_29_17) tyX10 tyX10_ok nmX10 rfl rfl rfl dX10_fault_2 (fun H locs hw => ?_)
  refine lv_iload_n hx hb dX10_fault_5 rfl (lv_at hl 1 rfl) ?_
  subst hm
  exact eb_iret X hw rfl rfl rfl dX10_fault_6

theorem J_X10_illegal {σ : eb_St}  {mm : Int32 × eb_St} (hm : m_X10_illegal σ = mm) (hj_ : rJ σ) : rJ mm.2 := by
  have hm : (fun (z1 : Int32 × eb_St) => (z1.1, z1.2)) (m_X10_fault σ 2 (((σ.1 0 37).toInt64) &&& 4294967295)) = mm := hm
  obtain ⟨z1, qz1⟩ : ∃ t : Int32 × eb_St, t = m_X10_fault σ 2 (((σ.1 0 37).toInt64) &&& 4294967295) := ⟨_, rfl⟩
  have hm : (z1.1, z1.2) = mm := by rw [qz1]; exact hm
  have jz1 : rJ z1.2 := J_X10_fault qz1.symm hj_
  subst hm
  exact jz1
set_option maxHeartbeats 4000000 in
set_option maxRecDepth 100000 in
theorem c_X10_illegal (l : Launch) (D : va_G) (cy : Nat → ClassId) (ad : Nat → Nat) (σ : eb_St)  (hj_ : rJ σ) : eb_M l yX10_illegal (Cond.code yX10_illegal cX10_illegal 1 (some .int) :: wsL_law) 1 23 D 18 cy rL ad σ [.ref (ad 0)] (some (.int (m_X10_illegal σ).1)) ((m_X10_illegal σ).2) := by
  refine eb_start (own := RX10) (by decide) rfl rfl (Nat.le_of_ble_eq_true rfl) ?_
  intro p e s m args below meth c A ls X hw hl
  have hl : lv_has ls 1 [(0, .ref (ad 0))] := hl
  have hx := X.1.1
  have hb := X.1.2.1
  have hown := X.1.2.2.2.1
  have hts := X.1.2.2.2.2
  generalize hm : m_X10_illegal σ = mm
  have hm : (fun (z1 : Int32 × eb_St) => (z1.1, z1.2)) (m_X10_fault σ 2 (((σ.1 0 37).toInt64) &&& 4294967295)) = mm := hm
  refine lv_aload_n hx hb dX10_illegal_0 rfl (lv_at hl 0 rfl) ?_
  refine lv_iconst (v := 2) hx hb dX10_illegal_1 (by decide) ?_
  refine lv_aload_n hx hb dX10_illegal_2 rfl (lv_at hl 0 rfl) ?_
  refine eb_get (T := TX10) X hw 0 37 (by decide) ⟨rfl, rfl, rfl⟩ (by decide) (fun _ h => List.mem_cons_of_mem _ (inlX10 _ h)) (List.mem_cons_of_mem _ wi_30_8) (v := .int (σ.1 0 37)) rfl dX10_illegal_3 ?_
  refine lv_i2l (v := (σ.1 0 37).toInt64) hx hb dX10_illegal_6 rfl ?_
  refine lv_ldc2 hx hb hown (hts _ (List.mem_cons_of_mem _ wi_33_3)) dX10_illegal_7 ?_
  refine lv_land hx hb dX10_illegal_10 ?_
  obtain ⟨z1, qz1⟩ : ∃ t : Int32 × eb_St, t = m_X10_fault σ 2 (((σ.1 0 37).toInt64) &&& 4294967295) := ⟨_, rfl⟩
  have hm : (z1.1, z1.2) = mm := by rw [qz1]; exact hm
  have jz1 : rJ z1.2 := J_X10_fault qz1.symm hj_
  have hc : eb_M l yX10_fault (Cond.code yX10_fault cX10_fault 4 (some .int) :: wsL_law) 0 0 D 18 cy rL ad σ [.ref (ad 0), .int 2, .long (((σ.1 0 37).toInt64) &&& 4294967295)] (some (.int z1.1)) z1.2 := by rw [qz1]; exact c_X10_fault l D cy ad σ 2 (((σ.1 0 37).toInt64) &&& 4294967295) hj_
  refine eb_callV (n := 2) (as := [.int 2, .long (((σ.1 0 37).toInt64) &&& 4294967295)]) (rest := []) X hw hl.1 0 hc (by decide) ⟨rfl, rfl, rfl⟩ (eb_goodV wi_30_20 wi_30_21 wi_30_22 wi_1_5 wi_30_23) rfl (by decide +kernel) ⟨by decide, by decide⟩ rfl rfl (Nat.le_of_ble_eq_true rfl) dX10_illegal_11 ⟨by decide, by decide⟩ (st' := [.int z1.1]) rfl (fun H locs hw => ?_)
  subst hm
  exact eb_iret X hw rfl rfl rfl dX10_illegal_14

set_option maxHeartbeats 4000000 in
set_option maxRecDepth 100000 in
theorem c_X10_isLive (l : Launch) (D : va_G) (cy : Nat → ClassId) (ad : Nat → Nat) (σ : eb_St) (a0 : Int32) (h0_ : vp_in a0 6) : eb_M l yX10_isLive (Cond.code yX10_isLive cX10_isLive 2 (some .boolean) :: wsL_law) 0 0 D 18 cy rL ad σ [.ref (ad 0), .int a0] (some (.int (eb_b (m_X10_isLive σ a0)))) σ := by
  refine eb_start (own := RX10) (by decide) rfl rfl (Nat.le_of_ble_eq_true rfl) ?_
  intro p e s m args below meth c A ls X hw hl
  have hl : lv_has ls 2 [(0, .ref (ad 0)), (1, .int a0)] := hl
  have hx := X.1.1
  have hb := X.1.2.1
  have hown := X.1.2.2.2.1
  have hts := X.1.2.2.2.2
  generalize hm : m_X10_isLive σ a0 = mm
  have hm : (if (σ.1 6 a0.toNatClampNeg) = 0 then false else true) = mm := hm
  refine lv_aload_n hx hb dX10_isLive_0 rfl (lv_at hl 0 rfl) ?_
  refine eb_get (T := TX10) X hw 0 22 (by decide) ⟨rfl, rfl, rfl⟩ (by decide) (fun _ h => List.mem_cons_of_mem _ (inlX10 _ h)) (List.mem_cons_of_mem _ wi_5_16) (v := .ref (ad 6)) rfl dX10_isLive_1 ?_
  refine lv_iload_n hx hb dX10_isLive_4 rfl (lv_at hl 1 rfl) ?_
  refine eb_iald (n := 6) X hw 6 (by decide) rfl rfl h0_ dX10_isLive_5 ?_
  refine lv_if_eq (tgt := 13) hx hb dX10_isLive_6 (by decide) (fun h1 => ?_) (fun h1 => ?_)
  · have hm := (if_pos h1).symm.trans hm
    refine lv_iconst (v := 0) hx hb dX10_isLive_13 (by decide) ?_
    subst hm
    exact eb_zret X hw rfl rfl rfl rfl dX10_isLive_14
  · have hm := (if_neg h1).symm.trans hm
    refine lv_iconst (v := 1) hx hb dX10_isLive_9 (by decide) ?_
    refine lv_goto (tgt := 14) hx hb dX10_isLive_10 (by decide) ?_
    subst hm
    exact eb_zret X hw rfl rfl rfl rfl dX10_isLive_14

set_option maxHeartbeats 4000000 in
set_option maxRecDepth 100000 in
theorem c_X10_set (l : Launch) (D : va_G) (cy : Nat → ClassId) (ad : Nat → Nat) (σ : eb_St)   : eb_M l yX10_set (Cond.code yX10_set cX10_set 1 (some .int) :: wsL_law) 0 0 D 18 cy rL ad σ [.ref (ad 0)] (some (.int (m_X10_set σ))) σ := by
  refine eb_start (own := RX10) (by decide) rfl rfl (Nat.le_of_ble_eq_true rfl) ?_
  intro p e s m args below meth c A ls X hw hl
  have hl : lv_has ls 1 [(0, .ref (ad 0))] := hl
  have hx := X.1.1
  have hb := X.1.2.1
  have hown := X.1.2.2.2.1
  have hts := X.1.2.2.2.2
  generalize hm : m_X10_set σ = mm
  have hm : (if (σ.1 0 8) < 0 then 6 else σ.1 0 8) = mm := hm
  refine lv_aload_n hx hb dX10_set_0 rfl (lv_at hl 0 rfl) ?_
  refine eb_get (T := TX10) X hw 0 8 (by decide) ⟨rfl, rfl, rfl⟩ (by decide) (fun _ h => List.mem_cons_of_mem _ (inlX10 _ h)) (List.mem_cons_of_mem _ wi_5_13) (v := .int (σ.1 0 8)) rfl dX10_set_1 ?_
  refine lv_if_lt (tgt := 14) hx hb dX10_set_4 (by decide) (fun h1 => ?_) (fun h1 => ?_)
  · have hm := (if_pos h1).symm.trans hm
    refine lv_bipush (v := 6) hx hb dX10_set_14 (by decide) ?_
    subst hm
    exact eb_iret X hw rfl rfl rfl dX10_set_16
  · have hm := (if_neg h1).symm.trans hm
    refine lv_aload_n hx hb dX10_set_7 rfl (lv_at hl 0 rfl) ?_
    refine eb_get (T := TX10) X hw 0 8 (by decide) ⟨rfl, rfl, rfl⟩ (by decide) (fun _ h => List.mem_cons_of_mem _ (inlX10 _ h)) (List.mem_cons_of_mem _ wi_5_13) (v := .int (σ.1 0 8)) rfl dX10_set_8 ?_
    refine lv_goto (tgt := 16) hx hb dX10_set_11 (by decide) ?_
    subst hm
    exact eb_iret X hw rfl rfl rfl dX10_set_16

theorem J_X10_hostGets {σ : eb_St} {a0 : Int64} {a1 : Int64} {mm : eb_St} (hm : m_X10_hostGets σ a0 a1 = mm) (hj_ : rJ σ) : rJ mm := by
  have hm : eb_pJ (eb_pJ σ 2 ((202 : Int32).toNatClampNeg) a0) 2 ((203 : Int32).toNatClampNeg) a1 = mm := hm
  subst hm
  exact hj_
set_option maxHeartbeats 4000000 in
set_option maxRecDepth 100000 in
theorem c_X10_hostGets (l : Launch) (D : va_G) (cy : Nat → ClassId) (ad : Nat → Nat) (σ : eb_St) (a0 : Int64) (a1 : Int64) (hj_ : rJ σ) : eb_M l yX10_hostGets (Cond.code yX10_hostGets cX10_hostGets 5 none :: wsL_law) 0 0 D 18 cy rL ad σ [.ref (ad 0), .long a0, .long a1] (none) (m_X10_hostGets σ a0 a1) := by
  refine eb_start (own := RX10) (by decide) rfl rfl (Nat.le_of_ble_eq_true rfl) ?_
  intro p e s m args below meth c A ls X hw hl
  have hl : lv_has ls 5 [(0, .ref (ad 0)), (1, .long a0), (3, .long a1)] := hl
  have hx := X.1.1
  have hb := X.1.2.1
  have hown := X.1.2.2.2.1
  have hts := X.1.2.2.2.2
  generalize hm : m_X10_hostGets σ a0 a1 = mm
  have hm : eb_pJ (eb_pJ σ 2 ((202 : Int32).toNatClampNeg) a0) 2 ((203 : Int32).toNatClampNeg) a1 = mm := hm
  refine lv_aload_n hx hb dX10_hostGets_0 rfl (lv_at hl 0 rfl) ?_
  refine eb_get (T := TX10) X hw 0 2 (by decide) ⟨rfl, rfl, rfl⟩ (by decide) (fun _ h => List.mem_cons_of_mem _ (inlX10 _ h)) (List.mem_cons_of_mem _ wi_5_9) (v := .ref (ad 2)) rfl dX10_hostGets_1 ?_
  refine lv_sipush (v := 202) hx hb dX10_hostGets_4 (by decide) ?_
  refine lv_lload_n hx hb dX10_hostGets_7 rfl (lv_at hl 1 rfl) ?_
  refine eb_last (n := 224) X hw 2 (by decide) rfl rfl (vp_in_iff.mpr ⟨by decide, by decide⟩) dX10_hostGets_8 (fun H locs hw => ?_)
  refine lv_aload_n hx hb dX10_hostGets_9 rfl (lv_at hl 0 rfl) ?_
  refine eb_get (T := TX10) X hw 0 2 (by decide) ⟨rfl, rfl, rfl⟩ (by decide) (fun _ h => List.mem_cons_of_mem _ (inlX10 _ h)) (List.mem_cons_of_mem _ wi_5_9) (v := .ref (ad 2)) rfl dX10_hostGets_10 ?_
  refine lv_sipush (v := 203) hx hb dX10_hostGets_13 (by decide) ?_
  refine lv_lload_n hx hb dX10_hostGets_16 rfl (lv_at hl 2 rfl) ?_
  refine eb_last (n := 224) X hw 2 (by decide) rfl rfl (vp_in_iff.mpr ⟨by decide, by decide⟩) dX10_hostGets_17 (fun H locs hw => ?_)
  subst hm
  exact eb_vret X hw rfl rfl dX10_hostGets_18

set_option maxHeartbeats 4000000 in
set_option maxRecDepth 100000 in
theorem c_X10_isLocked (l : Launch) (D : va_G) (cy : Nat → ClassId) (ad : Nat → Nat) (σ : eb_St) (a0 : Int32) (h0_ : vp_in a0 16) : eb_M l yX10_isLocked (Cond.code yX10_isLocked cX10_isLocked 2 (some .boolean) :: wsL_law) 0 0 D 18 cy rL ad σ [.ref (ad 0), .int a0] (some (.int (eb_b (m_X10_isLocked σ a0)))) σ := by
  refine eb_start (own := RX10) (by decide) rfl rfl (Nat.le_of_ble_eq_true rfl) ?_
  intro p e s m args below meth c A ls X hw hl
  have hl : lv_has ls 2 [(0, .ref (ad 0)), (1, .int a0)] := hl
  have hx := X.1.1
  have hb := X.1.2.1
  have hown := X.1.2.2.2.1
  have hts := X.1.2.2.2.2
  generalize hm : m_X10_isLocked σ a0 = mm
  have hm : (if ((σ.1 4 a0.toNatClampNeg) &&& 128) = 0 then false else true) = mm := hm
  refine lv_aload_n hx hb dX10_isLocked_0 rfl (lv_at hl 0 rfl) ?_
  refine eb_get (T := TX10) X hw 0 20 (by decide) ⟨rfl, rfl, rfl⟩ (by decide) (fun _ h => List.mem_cons_of_mem _ (inlX10 _ h)) (List.mem_cons_of_mem _ wi_5_14) (v := .ref (ad 4)) rfl dX10_isLocked_1 ?_
  refine lv_iload_n hx hb dX10_isLocked_4 rfl (lv_at hl 1 rfl) ?_
  refine eb_iald (n := 16) X hw 4 (by decide) rfl rfl h0_ dX10_isLocked_5 ?_
  refine lv_sipush (v := 128) hx hb dX10_isLocked_6 (by decide) ?_
  refine lv_iand hx hb dX10_isLocked_9 ?_
  refine lv_if_eq (tgt := 17) hx hb dX10_isLocked_10 (by decide) (fun h1 => ?_) (fun h1 => ?_)
  · have hm := (if_pos h1).symm.trans hm
    refine lv_iconst (v := 0) hx hb dX10_isLocked_17 (by decide) ?_
    subst hm
    exact eb_zret X hw rfl rfl rfl rfl dX10_isLocked_18
  · have hm := (if_neg h1).symm.trans hm
    refine lv_iconst (v := 1) hx hb dX10_isLocked_13 (by decide) ?_
    refine lv_goto (tgt := 18) hx hb dX10_isLocked_14 (by decide) ?_
    subst hm
    exact eb_zret X hw rfl rfl rfl rfl dX10_isLocked_18

set_option maxHeartbeats 4000000 in
set_option maxRecDepth 100000 in
theorem c_X10_in (l : Launch) (D : va_G) (cy : Nat → ClassId) (ad : Nat → Nat) (σ : eb_St) (a0 : Int64) (a1 : Int64) (a2 : Int64)  : eb_M l yX10_in (Cond.code yX10_in cX10_in 6 (some .boolean) :: wsL_law) 0 0 D 18 cy rL ad σ [.long a0, .long a1, .long a2] (some (.int (eb_b (m_X10_in a0 a1 a2)))) σ := by
  refine eb_start (own := RX10) (by decide) rfl rfl (Nat.le_of_ble_eq_true rfl) ?_
  intro p e s m args below meth c A ls X hw hl
  have hl : lv_has ls 6 [(0, .long a0), (2, .long a1), (4, .long a2)] := hl
  have hx := X.1.1
  have hb := X.1.2.1
  have hown := X.1.2.2.2.1
  have hts := X.1.2.2.2.2
  generalize hm : m_X10_in a0 a1 a2 = mm
  have hm : (if a0 < a1 then false else (if a2 < a0 then false else true)) = mm := hm
  refine lv_lload_n hx hb dX10_in_0 rfl (lv_at hl 0 rfl) ?_
  refine lv_lload_n hx hb dX10_in_1 rfl (lv_at hl 1 rfl) ?_
  refine eb_lif_lt (tgt := 17) hx hb dX10_in_2 dX10_in_3 (by decide) (fun h1 => ?_) (fun h1 => ?_)
  · have hm := (if_pos h1).symm.trans hm
    refine lv_iconst (v := 0) hx hb dX10_in_17 (by decide) ?_
    subst hm
    exact eb_zret X hw rfl rfl rfl rfl dX10_in_18
  · have hm := (if_neg h1).symm.trans hm
    refine lv_lload_n hx hb dX10_in_6 rfl (lv_at hl 0 rfl) ?_
    refine lv_lload hx hb dX10_in_7 (lv_at hl 2 rfl) ?_
    refine eb_lif_gt (tgt := 17) hx hb dX10_in_9 dX10_in_10 (by decide) (fun h2 => ?_) (fun h2 => ?_)
    · have hm := (if_pos h2).symm.trans hm
      refine lv_iconst (v := 0) hx hb dX10_in_17 (by decide) ?_
      subst hm
      exact eb_zret X hw rfl rfl rfl rfl dX10_in_18
    · have hm := (if_neg h2).symm.trans hm
      refine lv_iconst (v := 1) hx hb dX10_in_13 (by decide) ?_
      refine lv_goto (tgt := 18) hx hb dX10_in_14 (by decide) ?_
      subst hm
      exact eb_zret X hw rfl rfl rfl rfl dX10_in_18

set_option maxHeartbeats 4000000 in
set_option maxRecDepth 100000 in
theorem c_X10_napot (l : Launch) (D : va_G) (cy : Nat → ClassId) (ad : Nat → Nat) (σ : eb_St) (a0 : Int32) (a1 : Int32)  : eb_M l yX10_napot (Cond.code yX10_napot cX10_napot 2 (some .long) :: wsL_law) 0 0 D 18 cy rL ad σ [.int a0, .int a1] (some (.long (m_X10_napot a0 a1))) σ := by
  refine eb_start (own := RX10) (by decide) rfl rfl (Nat.le_of_ble_eq_true rfl) ?_
  intro p e s m args below meth c A ls X hw hl
  have hl : lv_has ls 2 [(0, .int a0), (1, .int a1)] := hl
  have hx := X.1.1
  have hb := X.1.2.1
  have hown := X.1.2.2.2.1
  have hts := X.1.2.2.2.2
  generalize hm : m_X10_napot a0 a1 = mm
  have hm : ((a0.toInt64 / 4) + ((a1 / 8).toInt64)) - 1 = mm := hm
  refine lv_iload_n hx hb dX10_napot_0 rfl (lv_at hl 0 rfl) ?_
  refine lv_i2l (v := a0.toInt64) hx hb dX10_napot_1 rfl ?_
  refine lv_ldc2 hx hb hown (hts _ (List.mem_cons_of_mem _ wi_30_14)) dX10_napot_2 ?_
  refine lv_ldiv hx hb dX10_napot_5 (by decide) ?_
  refine lv_iload_n hx hb dX10_napot_6 rfl (lv_at hl 1 rfl) ?_
  refine lv_bipush (v := 8) hx hb dX10_napot_7 (by decide) ?_
  refine lv_idiv hx hb dX10_napot_9 (by decide) ?_
  refine lv_i2l (v := (a1 / 8).toInt64) hx hb dX10_napot_10 rfl ?_
  refine lv_ladd hx hb dX10_napot_11 ?_
  refine lv_lconst (v := 1) hx hb dX10_napot_12 (by decide) ?_
  refine lv_lsub hx hb dX10_napot_13 ?_
  subst hm
  exact eb_lret X hw rfl rfl rfl dX10_napot_14

set_option maxHeartbeats 4000000 in
set_option maxRecDepth 100000 in
theorem c_X10_isBelow (l : Launch) (D : va_G) (cy : Nat → ClassId) (ad : Nat → Nat) (σ : eb_St) (a0 : Int64) (a1 : Int64)  : eb_M l yX10_isBelow (Cond.code yX10_isBelow cX10_isBelow 4 (some .boolean) :: wsL_law) 0 0 D 18 cy rL ad σ [.long a0, .long a1] (some (.int (eb_b (m_X10_isBelow a0 a1)))) σ := by
  refine eb_start (own := RX10) (by decide) rfl rfl (Nat.le_of_ble_eq_true rfl) ?_
  intro p e s m args below meth c A ls X hw hl
  have hl : lv_has ls 4 [(0, .long a0), (2, .long a1)] := hl
  have hx := X.1.1
  have hb := X.1.2.1
  have hown := X.1.2.2.2.1
  have hts := X.1.2.2.2.2
  generalize hm : m_X10_isBelow a0 a1 = mm
  have hm : (if (a1 + (-9223372036854775808)) ≤ (a0 + (-9223372036854775808)) then false else true) = mm := hm
  refine lv_lload_n hx hb dX10_isBelow_0 rfl (lv_at hl 0 rfl) ?_
  refine lv_ldc2 hx hb hown (hts _ (List.mem_cons_of_mem _ wi_33_15)) dX10_isBelow_1 ?_
  refine lv_ladd hx hb dX10_isBelow_4 ?_
  refine lv_lload_n hx hb dX10_isBelow_5 rfl (lv_at hl 1 rfl) ?_
  refine lv_ldc2 hx hb hown (hts _ (List.mem_cons_of_mem _ wi_33_15)) dX10_isBelow_6 ?_
  refine lv_ladd hx hb dX10_isBelow_9 ?_
  refine eb_lif_ge (tgt := 18) hx hb dX10_isBelow_10 dX10_isBelow_11 (by decide) (fun h1 => ?_) (fun h1 => ?_)
  · have hm := (if_pos h1).symm.trans hm
    refine lv_iconst (v := 0) hx hb dX10_isBelow_18 (by decide) ?_
    subst hm
    exact eb_zret X hw rfl rfl rfl rfl dX10_isBelow_19
  · have hm := (if_neg h1).symm.trans hm
    refine lv_iconst (v := 1) hx hb dX10_isBelow_14 (by decide) ?_
    refine lv_goto (tgt := 19) hx hb dX10_isBelow_15 (by decide) ?_
    subst hm
    exact eb_zret X hw rfl rfl rfl rfl dX10_isBelow_19

set_option maxHeartbeats 4000000 in
set_option maxRecDepth 100000 in
theorem c_X10_register (l : Launch) (D : va_G) (cy : Nat → ClassId) (ad : Nat → Nat) (σ : eb_St) (a0 : Int32)  : eb_M l yX10_register (Cond.code yX10_register cX10_register 2 (some .long) :: wsL_law) 0 0 D 18 cy rL ad σ [.ref (ad 0), .int a0] (some (.long (m_X10_register σ a0))) σ := by
  refine eb_start (own := RX10) (by decide) rfl rfl (Nat.le_of_ble_eq_true rfl) ?_
  intro p e s m args below meth c A ls X hw hl
  have hl : lv_has ls 2 [(0, .ref (ad 0)), (1, .int a0)] := hl
  have hx := X.1.1
  have hb := X.1.2.1
  have hown := X.1.2.2.2.1
  have hts := X.1.2.2.2.2
  generalize hm : m_X10_register σ a0 = mm
  have hm : (if a0 < 0 then 0 else (if a0 ≤ 31 then σ.2 2 (192 + a0).toNatClampNeg else 0)) = mm := hm
  refine lv_iload_n hx hb dX10_register_0 rfl (lv_at hl 1 rfl) ?_
  refine lv_if_lt (tgt := 10) hx hb dX10_register_1 (by decide) (fun h1 => ?_) (fun h1 => ?_)
  · have hm := (if_pos h1).symm.trans hm
    refine lv_lconst (v := 0) hx hb dX10_register_10 (by decide) ?_
    refine lv_goto (tgt := 24) hx hb dX10_register_11 (by decide) ?_
    subst hm
    exact eb_lret X hw rfl rfl rfl dX10_register_24
  · have hm := (if_neg h1).symm.trans hm
    refine lv_iload_n hx hb dX10_register_4 rfl (lv_at hl 1 rfl) ?_
    refine lv_bipush (v := 31) hx hb dX10_register_5 (by decide) ?_
    refine lv_icmp_le (tgt := 14) hx hb dX10_register_7 (by decide) (fun h2 => ?_) (fun h2 => ?_)
    · have hm := (if_pos h2).symm.trans hm
      refine lv_aload_n hx hb dX10_register_14 rfl (lv_at hl 0 rfl) ?_
      refine eb_get (T := TX10) X hw 0 2 (by decide) ⟨rfl, rfl, rfl⟩ (by decide) (fun _ h => List.mem_cons_of_mem _ (inlX10 _ h)) (List.mem_cons_of_mem _ wi_5_9) (v := .ref (ad 2)) rfl dX10_register_15 ?_
      refine lv_sipush (v := 192) hx hb dX10_register_18 (by decide) ?_
      refine lv_iload_n hx hb dX10_register_21 rfl (lv_at hl 1 rfl) ?_
      refine lv_iadd hx hb dX10_register_22 ?_
      refine eb_lald (n := 224) X hw 2 (by decide) rfl rfl (eb_in_off (k := 32) (eb_rngl (eb_nlt h1) h2 (by decide) (by decide)) (by decide) (by decide) (by decide)) dX10_register_23 ?_
      subst hm
      exact eb_lret X hw rfl rfl rfl dX10_register_24
    · have hm := (if_neg h2).symm.trans hm
      refine lv_lconst (v := 0) hx hb dX10_register_10 (by decide) ?_
      refine lv_goto (tgt := 24) hx hb dX10_register_11 (by decide) ?_
      subst hm
      exact eb_lret X hw rfl rfl rfl dX10_register_24

set_option maxHeartbeats 4000000 in
set_option maxRecDepth 100000 in
theorem c_X10_isMemory (l : Launch) (D : va_G) (cy : Nat → ClassId) (ad : Nat → Nat) (σ : eb_St) (a0 : Int64) (a1 : Int32)  : eb_M l yX10_isMemory (Cond.code yX10_isMemory cX10_isMemory 3 (some .boolean) :: wsL_law) 0 0 D 18 cy rL ad σ [.long a0, .int a1] (some (.int (eb_b (m_X10_isMemory a0 a1)))) σ := by
  refine eb_start (own := RX10) (by decide) rfl rfl (Nat.le_of_ble_eq_true rfl) ?_
  intro p e s m args below meth c A ls X hw hl
  have hl : lv_has ls 3 [(0, .long a0), (2, .int a1)] := hl
  have hx := X.1.1
  have hb := X.1.2.1
  have hown := X.1.2.2.2.1
  have hts := X.1.2.2.2.2
  generalize hm : m_X10_isMemory a0 a1 = mm
  have hm : (if a0 < 0 then false else (if ((65536 - a1).toInt64) < a0 then false else true)) = mm := hm
  refine lv_lload_n hx hb dX10_isMemory_0 rfl (lv_at hl 0 rfl) ?_
  refine lv_lconst (v := 0) hx hb dX10_isMemory_1 (by decide) ?_
  refine eb_lif_lt (tgt := 20) hx hb dX10_isMemory_2 dX10_isMemory_3 (by decide) (fun h1 => ?_) (fun h1 => ?_)
  · have hm := (if_pos h1).symm.trans hm
    refine lv_iconst (v := 0) hx hb dX10_isMemory_20 (by decide) ?_
    subst hm
    exact eb_zret X hw rfl rfl rfl rfl dX10_isMemory_21
  · have hm := (if_neg h1).symm.trans hm
    refine lv_lload_n hx hb dX10_isMemory_6 rfl (lv_at hl 0 rfl) ?_
    refine lv_ldc hx hb hown (hts _ (List.mem_cons_of_mem _ wi_5_6)) dX10_isMemory_7 ?_
    refine lv_iload_n hx hb dX10_isMemory_9 rfl (lv_at hl 1 rfl) ?_
    refine lv_isub hx hb dX10_isMemory_10 ?_
    refine lv_i2l (v := (65536 - a1).toInt64) hx hb dX10_isMemory_11 rfl ?_
    refine eb_lif_gt (tgt := 20) hx hb dX10_isMemory_12 dX10_isMemory_13 (by decide) (fun h2 => ?_) (fun h2 => ?_)
    · have hm := (if_pos h2).symm.trans hm
      refine lv_iconst (v := 0) hx hb dX10_isMemory_20 (by decide) ?_
      subst hm
      exact eb_zret X hw rfl rfl rfl rfl dX10_isMemory_21
    · have hm := (if_neg h2).symm.trans hm
      refine lv_iconst (v := 1) hx hb dX10_isMemory_16 (by decide) ?_
      refine lv_goto (tgt := 21) hx hb dX10_isMemory_17 (by decide) ?_
      subst hm
      exact eb_zret X hw rfl rfl rfl rfl dX10_isMemory_21

set_option maxHeartbeats 4000000 in
set_option maxRecDepth 100000 in
theorem c_X10_isPower (l : Launch) (D : va_G) (cy : Nat → ClassId) (ad : Nat → Nat) (σ : eb_St) (a0 : Int64) (a1 : Int64) (a2 : Int64)  : eb_M l yX10_isPower (Cond.code yX10_isPower cX10_isPower 6 (some .boolean) :: wsL_law) 0 0 D 18 cy rL ad σ [.long a0, .long a1, .long a2] (some (.int (eb_b (m_X10_isPower a0 a1 a2)))) σ := by
  refine eb_start (own := RX10) (by decide) rfl rfl (Nat.le_of_ble_eq_true rfl) ?_
  intro p e s m args below meth c A ls X hw hl
  have hl : lv_has ls 6 [(0, .long a0), (2, .long a1), (4, .long a2)] := hl
  have hx := X.1.1
  have hb := X.1.2.1
  have hown := X.1.2.2.2.1
  have hts := X.1.2.2.2.2
  generalize hm : m_X10_isPower a0 a1 a2 = mm
  have hm : (if a0 < a1 then false else (if a2 < a0 then false else (if (a0 &&& (a0 - 1)) = 0 then true else false))) = mm := hm
  refine lv_lload_n hx hb dX10_isPower_0 rfl (lv_at hl 0 rfl) ?_
  refine lv_lload_n hx hb dX10_isPower_1 rfl (lv_at hl 1 rfl) ?_
  refine eb_lif_lt (tgt := 27) hx hb dX10_isPower_2 dX10_isPower_3 (by decide) (fun h1 => ?_) (fun h1 => ?_)
  · have hm := (if_pos h1).symm.trans hm
    refine lv_iconst (v := 0) hx hb dX10_isPower_27 (by decide) ?_
    subst hm
    exact eb_zret X hw rfl rfl rfl rfl dX10_isPower_28
  · have hm := (if_neg h1).symm.trans hm
    refine lv_lload_n hx hb dX10_isPower_6 rfl (lv_at hl 0 rfl) ?_
    refine lv_lload hx hb dX10_isPower_7 (lv_at hl 2 rfl) ?_
    refine eb_lif_gt (tgt := 27) hx hb dX10_isPower_9 dX10_isPower_10 (by decide) (fun h2 => ?_) (fun h2 => ?_)
    · have hm := (if_pos h2).symm.trans hm
      refine lv_iconst (v := 0) hx hb dX10_isPower_27 (by decide) ?_
      subst hm
      exact eb_zret X hw rfl rfl rfl rfl dX10_isPower_28
    · have hm := (if_neg h2).symm.trans hm
      refine lv_lload_n hx hb dX10_isPower_13 rfl (lv_at hl 0 rfl) ?_
      refine lv_lload_n hx hb dX10_isPower_14 rfl (lv_at hl 0 rfl) ?_
      refine lv_lconst (v := 1) hx hb dX10_isPower_15 (by decide) ?_
      refine lv_lsub hx hb dX10_isPower_16 ?_
      refine lv_land hx hb dX10_isPower_17 ?_
      refine lv_lconst (v := 0) hx hb dX10_isPower_18 (by decide) ?_
      refine eb_lif_ne (tgt := 27) hx hb dX10_isPower_19 dX10_isPower_20 (by decide) (fun h3 => ?_) (fun h3 => ?_)
      · have hm := (if_neg h3).symm.trans hm
        refine lv_iconst (v := 0) hx hb dX10_isPower_27 (by decide) ?_
        subst hm
        exact eb_zret X hw rfl rfl rfl rfl dX10_isPower_28
      · have hm := (if_pos h3).symm.trans hm
        refine lv_iconst (v := 1) hx hb dX10_isPower_23 (by decide) ?_
        refine lv_goto (tgt := 28) hx hb dX10_isPower_24 (by decide) ?_
        subst hm
        exact eb_zret X hw rfl rfl rfl rfl dX10_isPower_28

set_option maxHeartbeats 4000000 in
set_option maxRecDepth 100000 in
theorem c_X10_isTold (l : Launch) (D : va_G) (cy : Nat → ClassId) (ad : Nat → Nat) (σ : eb_St) (a0 : Int64) (a1 : Int64) (h0_ : ¬ a1 = 0) : eb_M l yX10_isTold (Cond.code yX10_isTold cX10_isTold 4 (some .boolean) :: wsL_law) 0 0 D 18 cy rL ad σ [.long a0, .long a1] (some (.int (eb_b (m_X10_isTold a0 a1)))) σ := by
  refine eb_start (own := RX10) (by decide) rfl rfl (Nat.le_of_ble_eq_true rfl) ?_
  intro p e s m args below meth c A ls X hw hl
  have hl : lv_has ls 4 [(0, .long a0), (2, .long a1)] := hl
  have hx := X.1.1
  have hb := X.1.2.1
  have hown := X.1.2.2.2.1
  have hts := X.1.2.2.2.2
  generalize hm : m_X10_isTold a0 a1 = mm
  have hm : (if a0 < 0 then false else (if (a0 - a0 / a1 * a1) = 0 then (if (65536 - a1) < a0 then false else true) else false)) = mm := hm
  refine lv_lload_n hx hb dX10_isTold_0 rfl (lv_at hl 0 rfl) ?_
  refine lv_lconst (v := 0) hx hb dX10_isTold_1 (by decide) ?_
  refine eb_lif_lt (tgt := 28) hx hb dX10_isTold_2 dX10_isTold_3 (by decide) (fun h1 => ?_) (fun h1 => ?_)
  · have hm := (if_pos h1).symm.trans hm
    refine lv_iconst (v := 0) hx hb dX10_isTold_28 (by decide) ?_
    subst hm
    exact eb_zret X hw rfl rfl rfl rfl dX10_isTold_29
  · have hm := (if_neg h1).symm.trans hm
    refine lv_lload_n hx hb dX10_isTold_6 rfl (lv_at hl 0 rfl) ?_
    refine lv_lload_n hx hb dX10_isTold_7 rfl (lv_at hl 1 rfl) ?_
    refine lv_lrem hx hb dX10_isTold_8 (by assumption) ?_
    refine lv_lconst (v := 0) hx hb dX10_isTold_9 (by decide) ?_
    refine eb_lif_ne (tgt := 28) hx hb dX10_isTold_10 dX10_isTold_11 (by decide) (fun h2 => ?_) (fun h2 => ?_)
    · have hm := (if_neg h2).symm.trans hm
      refine lv_iconst (v := 0) hx hb dX10_isTold_28 (by decide) ?_
      subst hm
      exact eb_zret X hw rfl rfl rfl rfl dX10_isTold_29
    · have hm := (if_pos h2).symm.trans hm
      refine lv_lload_n hx hb dX10_isTold_14 rfl (lv_at hl 0 rfl) ?_
      refine lv_ldc2 hx hb hown (hts _ (List.mem_cons_of_mem _ wi_37_9)) dX10_isTold_15 ?_
      refine lv_lload_n hx hb dX10_isTold_18 rfl (lv_at hl 1 rfl) ?_
      refine lv_lsub hx hb dX10_isTold_19 ?_
      refine eb_lif_gt (tgt := 28) hx hb dX10_isTold_20 dX10_isTold_21 (by decide) (fun h3 => ?_) (fun h3 => ?_)
      · have hm := (if_pos h3).symm.trans hm
        refine lv_iconst (v := 0) hx hb dX10_isTold_28 (by decide) ?_
        subst hm
        exact eb_zret X hw rfl rfl rfl rfl dX10_isTold_29
      · have hm := (if_neg h3).symm.trans hm
        refine lv_iconst (v := 1) hx hb dX10_isTold_24 (by decide) ?_
        refine lv_goto (tgt := 29) hx hb dX10_isTold_25 (by decide) ?_
        subst hm
        exact eb_zret X hw rfl rfl rfl rfl dX10_isTold_29

set_option maxHeartbeats 4000000 in
set_option maxRecDepth 100000 in
theorem c_X10_meet (l : Launch) (D : va_G) (cy : Nat → ClassId) (ad : Nat → Nat) (σ : eb_St) (a0 : Int64) (a1 : Int64) (a2 : Int64) (a3 : Int64)  : eb_M l yX10_meet (Cond.code yX10_meet cX10_meet 8 (some .boolean) :: wsL_law) 0 0 D 18 cy rL ad σ [.long a0, .long a1, .long a2, .long a3] (some (.int (eb_b (m_X10_meet a0 a1 a2 a3)))) σ := by
  refine eb_start (own := RX10) (by decide) rfl rfl (Nat.le_of_ble_eq_true rfl) ?_
  intro p e s m args below meth c A ls X hw hl
  have hl : lv_has ls 8 [(0, .long a0), (2, .long a1), (4, .long a2), (6, .long a3)] := hl
  have hx := X.1.1
  have hb := X.1.2.1
  have hown := X.1.2.2.2.1
  have hts := X.1.2.2.2.2
  generalize hm : m_X10_meet a0 a1 a2 a3 = mm
  have hm : (if a1 ≤ 0 then false else (if a3 ≤ 0 then false else (if (a2 + a3) ≤ a0 then false else (if (a0 + a1) ≤ a2 then false else true)))) = mm := hm
  refine lv_lload_n hx hb dX10_meet_0 rfl (lv_at hl 1 rfl) ?_
  refine lv_lconst (v := 0) hx hb dX10_meet_1 (by decide) ?_
  refine eb_lif_le (tgt := 36) hx hb dX10_meet_2 dX10_meet_3 (by decide) (fun h1 => ?_) (fun h1 => ?_)
  · have hm := (if_pos h1).symm.trans hm
    refine lv_iconst (v := 0) hx hb dX10_meet_36 (by decide) ?_
    subst hm
    exact eb_zret X hw rfl rfl rfl rfl dX10_meet_37
  · have hm := (if_neg h1).symm.trans hm
    refine lv_lload hx hb dX10_meet_6 (lv_at hl 3 rfl) ?_
    refine lv_lconst (v := 0) hx hb dX10_meet_8 (by decide) ?_
    refine eb_lif_le (tgt := 36) hx hb dX10_meet_9 dX10_meet_10 (by decide) (fun h2 => ?_) (fun h2 => ?_)
    · have hm := (if_pos h2).symm.trans hm
      refine lv_iconst (v := 0) hx hb dX10_meet_36 (by decide) ?_
      subst hm
      exact eb_zret X hw rfl rfl rfl rfl dX10_meet_37
    · have hm := (if_neg h2).symm.trans hm
      refine lv_lload_n hx hb dX10_meet_13 rfl (lv_at hl 0 rfl) ?_
      refine lv_lload hx hb dX10_meet_14 (lv_at hl 2 rfl) ?_
      refine lv_lload hx hb dX10_meet_16 (lv_at hl 3 rfl) ?_
      refine lv_ladd hx hb dX10_meet_18 ?_
      refine eb_lif_ge (tgt := 36) hx hb dX10_meet_19 dX10_meet_20 (by decide) (fun h3 => ?_) (fun h3 => ?_)
      · have hm := (if_pos h3).symm.trans hm
        refine lv_iconst (v := 0) hx hb dX10_meet_36 (by decide) ?_
        subst hm
        exact eb_zret X hw rfl rfl rfl rfl dX10_meet_37
      · have hm := (if_neg h3).symm.trans hm
        refine lv_lload hx hb dX10_meet_23 (lv_at hl 2 rfl) ?_
        refine lv_lload_n hx hb dX10_meet_25 rfl (lv_at hl 0 rfl) ?_
        refine lv_lload_n hx hb dX10_meet_26 rfl (lv_at hl 1 rfl) ?_
        refine lv_ladd hx hb dX10_meet_27 ?_
        refine eb_lif_ge (tgt := 36) hx hb dX10_meet_28 dX10_meet_29 (by decide) (fun h4 => ?_) (fun h4 => ?_)
        · have hm := (if_pos h4).symm.trans hm
          refine lv_iconst (v := 0) hx hb dX10_meet_36 (by decide) ?_
          subst hm
          exact eb_zret X hw rfl rfl rfl rfl dX10_meet_37
        · have hm := (if_neg h4).symm.trans hm
          refine lv_iconst (v := 1) hx hb dX10_meet_32 (by decide) ?_
          refine lv_goto (tgt := 37) hx hb dX10_meet_33 (by decide) ?_
          subst hm
          exact eb_zret X hw rfl rfl rfl rfl dX10_meet_37

set_option maxHeartbeats 4000000 in
set_option maxRecDepth 100000 in
theorem c_X10_jump (l : Launch) (D : va_G) (cy : Nat → ClassId) (ad : Nat → Nat) (σ : eb_St)   : eb_M l yX10_jump (Cond.code yX10_jump cX10_jump 1 (some .long) :: wsL_law) 0 0 D 18 cy rL ad σ [.ref (ad 0)] (some (.long (m_X10_jump σ))) σ := by
  refine eb_start (own := RX10) (by decide) rfl rfl (Nat.le_of_ble_eq_true rfl) ?_
  intro p e s m args below meth c A ls X hw hl
  have hl : lv_has ls 1 [(0, .ref (ad 0))] := hl
  have hx := X.1.1
  have hb := X.1.2.1
  have hown := X.1.2.2.2.1
  have hts := X.1.2.2.2.2
  generalize hm : m_X10_jump σ = mm
  have hm : ((((((σ.1 0 37) >>> (31 &&& 31)) <<< (20 &&& 31)) ||| ((σ.1 0 37) &&& (1044480 : Int32))) ||| (((σ.1 0 37) >>> (9 &&& 31)) &&& (2048 : Int32))) ||| (((σ.1 0 37) >>> (20 &&& 31)) &&& (2046 : Int32))).toInt64 = mm := hm
  refine lv_aload_n hx hb dX10_jump_0 rfl (lv_at hl 0 rfl) ?_
  refine eb_get (T := TX10) X hw 0 37 (by decide) ⟨rfl, rfl, rfl⟩ (by decide) (fun _ h => List.mem_cons_of_mem _ (inlX10 _ h)) (List.mem_cons_of_mem _ wi_30_8) (v := .int (σ.1 0 37)) rfl dX10_jump_1 ?_
  refine lv_bipush (v := 31) hx hb dX10_jump_4 (by decide) ?_
  refine lv_ishr hx hb dX10_jump_6 ?_
  refine lv_bipush (v := 20) hx hb dX10_jump_7 (by decide) ?_
  refine lv_ishl hx hb dX10_jump_9 ?_
  refine lv_aload_n hx hb dX10_jump_10 rfl (lv_at hl 0 rfl) ?_
  refine eb_get (T := TX10) X hw 0 37 (by decide) ⟨rfl, rfl, rfl⟩ (by decide) (fun _ h => List.mem_cons_of_mem _ (inlX10 _ h)) (List.mem_cons_of_mem _ wi_30_8) (v := .int (σ.1 0 37)) rfl dX10_jump_11 ?_
  refine lv_ldcw hx hb hown (hts _ (List.mem_cons_of_mem _ wi_32_18)) dX10_jump_14 ?_
  refine lv_iand hx hb dX10_jump_17 ?_
  refine lv_ior hx hb dX10_jump_18 ?_
  refine lv_aload_n hx hb dX10_jump_19 rfl (lv_at hl 0 rfl) ?_
  refine eb_get (T := TX10) X hw 0 37 (by decide) ⟨rfl, rfl, rfl⟩ (by decide) (fun _ h => List.mem_cons_of_mem _ (inlX10 _ h)) (List.mem_cons_of_mem _ wi_30_8) (v := .int (σ.1 0 37)) rfl dX10_jump_20 ?_
  refine lv_bipush (v := 9) hx hb dX10_jump_23 (by decide) ?_
  refine lv_ishr hx hb dX10_jump_25 ?_
  refine lv_sipush (v := 2048) hx hb dX10_jump_26 (by decide) ?_
  refine lv_iand hx hb dX10_jump_29 ?_
  refine lv_ior hx hb dX10_jump_30 ?_
  refine lv_aload_n hx hb dX10_jump_31 rfl (lv_at hl 0 rfl) ?_
  refine eb_get (T := TX10) X hw 0 37 (by decide) ⟨rfl, rfl, rfl⟩ (by decide) (fun _ h => List.mem_cons_of_mem _ (inlX10 _ h)) (List.mem_cons_of_mem _ wi_30_8) (v := .int (σ.1 0 37)) rfl dX10_jump_32 ?_
  refine lv_bipush (v := 20) hx hb dX10_jump_35 (by decide) ?_
  refine lv_ishr hx hb dX10_jump_37 ?_
  refine lv_sipush (v := 2046) hx hb dX10_jump_38 (by decide) ?_
  refine lv_iand hx hb dX10_jump_41 ?_
  refine lv_ior hx hb dX10_jump_42 ?_
  refine lv_i2l (v := ((((((σ.1 0 37) >>> (31 &&& 31)) <<< (20 &&& 31)) ||| ((σ.1 0 37) &&& (1044480 : Int32))) ||| (((σ.1 0 37) >>> (9 &&& 31)) &&& (2048 : Int32))) ||| (((σ.1 0 37) >>> (20 &&& 31)) &&& (2046 : Int32))).toInt64) hx hb dX10_jump_43 rfl ?_
  subst hm
  exact eb_lret X hw rfl rfl rfl dX10_jump_44

set_option maxHeartbeats 4000000 in
set_option maxRecDepth 100000 in
theorem c_X10_held (l : Launch) (D : va_G) (cy : Nat → ClassId) (ad : Nat → Nat) (σ : eb_St) (a0 : Int32)  : eb_M l yX10_held (Cond.code yX10_held cX10_held 2 (some .long) :: wsL_law) 0 0 D 18 cy rL ad σ [.ref (ad 0), .int a0] (some (.long (m_X10_held σ a0))) σ := by
  refine eb_start (own := RX10) (by decide) rfl rfl (Nat.le_of_ble_eq_true rfl) ?_
  intro p e s m args below meth c A ls X hw hl
  have hl : lv_has ls 2 [(0, .ref (ad 0)), (1, .int a0)] := hl
  have hx := X.1.1
  have hb := X.1.2.1
  have hown := X.1.2.2.2.1
  have hts := X.1.2.2.2.2
  generalize hm : m_X10_held σ a0 = mm
  have hm : (if a0 = 0 then σ.2 3 (6 : Int32).toNatClampNeg else if a0 = 1 then σ.2 0 7 else if a0 = 2 then eb_lshl (σ.2 0 15) 11 else if a0 = 3 then σ.2 0 16 else if a0 = 4 then σ.2 0 17 else if a0 = 5 then σ.2 0 18 else if a0 = 6 then σ.2 0 19 else 0) = mm := hm
  refine lv_iload_n hx hb dX10_held_0 rfl (lv_at hl 1 rfl) ?_
  by_cases h1 : a0 = 0
  · have hm := (if_pos h1).symm.trans hm
    refine lv_tableIn (off := 43) (tgt := 44) hx hb dX10_held_1 (by rw [h1]; decide) (by rw [h1]; decide) (by rw [h1]; rfl) (by decide) ?_
    refine lv_aload_n hx hb dX10_held_44 rfl (lv_at hl 0 rfl) ?_
    refine eb_get (T := TX10) X hw 0 3 (by decide) ⟨rfl, rfl, rfl⟩ (by decide) (fun _ h => List.mem_cons_of_mem _ (inlX10 _ h)) (List.mem_cons_of_mem _ wi_5_10) (v := .ref (ad 3)) rfl dX10_held_45 ?_
    refine lv_bipush (v := 6) hx hb dX10_held_48 (by decide) ?_
    refine eb_lald (n := 7) X hw 3 (by decide) rfl rfl (vp_in_iff.mpr ⟨by decide, by decide⟩) dX10_held_50 ?_
    subst hm
    exact eb_lret X hw rfl rfl rfl dX10_held_51
  · have hm := (if_neg h1).symm.trans hm
    by_cases h2 : a0 = 1
    · have hm := (if_pos h2).symm.trans hm
      refine lv_tableIn (off := 51) (tgt := 52) hx hb dX10_held_1 (by rw [h2]; decide) (by rw [h2]; decide) (by rw [h2]; rfl) (by decide) ?_
      refine lv_aload_n hx hb dX10_held_52 rfl (lv_at hl 0 rfl) ?_
      refine eb_get (T := TX10) X hw 0 7 (by decide) ⟨rfl, rfl, rfl⟩ (by decide) (fun _ h => List.mem_cons_of_mem _ (inlX10 _ h)) (List.mem_cons_of_mem _ wi_9_9) (v := .long (σ.2 0 7)) rfl dX10_held_53 ?_
      subst hm
      exact eb_lret X hw rfl rfl rfl dX10_held_56
    · have hm := (if_neg h2).symm.trans hm
      by_cases h3 : a0 = 2
      · have hm := (if_pos h3).symm.trans hm
        refine lv_tableIn (off := 56) (tgt := 57) hx hb dX10_held_1 (by rw [h3]; decide) (by rw [h3]; decide) (by rw [h3]; rfl) (by decide) ?_
        refine lv_aload_n hx hb dX10_held_57 rfl (lv_at hl 0 rfl) ?_
        refine eb_get (T := TX10) X hw 0 15 (by decide) ⟨rfl, rfl, rfl⟩ (by decide) (fun _ h => List.mem_cons_of_mem _ (inlX10 _ h)) (List.mem_cons_of_mem _ wi_9_16) (v := .long (σ.2 0 15)) rfl dX10_held_58 ?_
        refine lv_bipush (v := 11) hx hb dX10_held_61 (by decide) ?_
        refine lv_lshl (v := eb_lshl (σ.2 0 15) 11) hx hb dX10_held_63 rfl ?_
        subst hm
        exact eb_lret X hw rfl rfl rfl dX10_held_64
      · have hm := (if_neg h3).symm.trans hm
        by_cases h4 : a0 = 3
        · have hm := (if_pos h4).symm.trans hm
          refine lv_tableIn (off := 64) (tgt := 65) hx hb dX10_held_1 (by rw [h4]; decide) (by rw [h4]; decide) (by rw [h4]; rfl) (by decide) ?_
          refine lv_aload_n hx hb dX10_held_65 rfl (lv_at hl 0 rfl) ?_
          refine eb_get (T := TX10) X hw 0 16 (by decide) ⟨rfl, rfl, rfl⟩ (by decide) (fun _ h => List.mem_cons_of_mem _ (inlX10 _ h)) (List.mem_cons_of_mem _ wi_9_17) (v := .long (σ.2 0 16)) rfl dX10_held_66 ?_
          subst hm
          exact eb_lret X hw rfl rfl rfl dX10_held_69
        · have hm := (if_neg h4).symm.trans hm
          by_cases h5 : a0 = 4
          · have hm := (if_pos h5).symm.trans hm
            refine lv_tableIn (off := 69) (tgt := 70) hx hb dX10_held_1 (by rw [h5]; decide) (by rw [h5]; decide) (by rw [h5]; rfl) (by decide) ?_
            refine lv_aload_n hx hb dX10_held_70 rfl (lv_at hl 0 rfl) ?_
            refine eb_get (T := TX10) X hw 0 17 (by decide) ⟨rfl, rfl, rfl⟩ (by decide) (fun _ h => List.mem_cons_of_mem _ (inlX10 _ h)) (List.mem_cons_of_mem _ wi_9_18) (v := .long (σ.2 0 17)) rfl dX10_held_71 ?_
            subst hm
            exact eb_lret X hw rfl rfl rfl dX10_held_74
          · have hm := (if_neg h5).symm.trans hm
            by_cases h6 : a0 = 5
            · have hm := (if_pos h6).symm.trans hm
              refine lv_tableIn (off := 74) (tgt := 75) hx hb dX10_held_1 (by rw [h6]; decide) (by rw [h6]; decide) (by rw [h6]; rfl) (by decide) ?_
              refine lv_aload_n hx hb dX10_held_75 rfl (lv_at hl 0 rfl) ?_
              refine eb_get (T := TX10) X hw 0 18 (by decide) ⟨rfl, rfl, rfl⟩ (by decide) (fun _ h => List.mem_cons_of_mem _ (inlX10 _ h)) (List.mem_cons_of_mem _ wi_9_19) (v := .long (σ.2 0 18)) rfl dX10_held_76 ?_
              subst hm
              exact eb_lret X hw rfl rfl rfl dX10_held_79
            · have hm := (if_neg h6).symm.trans hm
              by_cases h7 : a0 = 6
              · have hm := (if_pos h7).symm.trans hm
                refine lv_tableIn (off := 79) (tgt := 80) hx hb dX10_held_1 (by rw [h7]; decide) (by rw [h7]; decide) (by rw [h7]; rfl) (by decide) ?_
                refine lv_aload_n hx hb dX10_held_80 rfl (lv_at hl 0 rfl) ?_
                refine eb_get (T := TX10) X hw 0 19 (by decide) ⟨rfl, rfl, rfl⟩ (by decide) (fun _ h => List.mem_cons_of_mem _ (inlX10 _ h)) (List.mem_cons_of_mem _ wi_9_20) (v := .long (σ.2 0 19)) rfl dX10_held_81 ?_
                subst hm
                exact eb_lret X hw rfl rfl rfl dX10_held_84
              · have hm := (if_neg h7).symm.trans hm
                refine lv_tableOut (tgt := 85) hx hb dX10_held_1 (by have qh1 := lv_neT h1 (a := 0) (by decide); have qh2 := lv_neT h2 (a := 1) (by decide); have qh3 := lv_neT h3 (a := 2) (by decide); have qh4 := lv_neT h4 (a := 3) (by decide); have qh5 := lv_neT h5 (a := 4) (by decide); have qh6 := lv_neT h6 (a := 5) (by decide); have qh7 := lv_neT h7 (a := 6) (by decide); omega) (by decide) ?_
                refine lv_lconst (v := 0) hx hb dX10_held_85 (by decide) ?_
                subst hm
                exact eb_lret X hw rfl rfl rfl dX10_held_86

set_option maxHeartbeats 4000000 in
set_option maxRecDepth 100000 in
theorem c_X10_key (l : Launch) (D : va_G) (cy : Nat → ClassId) (ad : Nat → Nat) (σ : eb_St) (a0 : Int32) (h0_ : vp_in a0 6) : eb_M l yX10_key (Cond.code yX10_key cX10_key 4 (some .long) :: wsL_law) 0 0 D 18 cy rL ad σ [.ref (ad 0), .int a0] (some (.long (m_X10_key σ a0))) σ := by
  refine eb_start (own := RX10) (by decide) rfl rfl (Nat.le_of_ble_eq_true rfl) ?_
  intro p e s m args below meth c A ls X hw hl
  have hl : lv_has ls 4 [(0, .ref (ad 0)), (1, .int a0)] := hl
  have hx := X.1.1
  have hb := X.1.2.1
  have hown := X.1.2.2.2.1
  have hts := X.1.2.2.2.2
  generalize hm : m_X10_key σ a0 = mm
  have hm : (fun (x1 : Int64) => (fun (x2 : Int64) => (fun (x3 : Int64) => x3 ^^^ (eb_lushr x3 33)) ((x2 ^^^ (eb_lushr x2 33)) * (-4265267296055464877))) ((x1 ^^^ (eb_lushr x1 33)) * (-49064778989728563))) ((σ.2 0 0) ^^^ (σ.2 14 a0.toNatClampNeg)) = mm := hm
  refine lv_aload_n hx hb dX10_key_0 rfl (lv_at hl 0 rfl) ?_
  refine eb_get (T := TX10) X hw 0 0 (by decide) ⟨rfl, rfl, rfl⟩ (by decide) (fun _ h => List.mem_cons_of_mem _ (inlX10 _ h)) (List.mem_cons_of_mem _ wi_6_4) (v := .long (σ.2 0 0)) rfl dX10_key_1 ?_
  refine lv_aload_n hx hb dX10_key_4 rfl (lv_at hl 0 rfl) ?_
  refine eb_get (T := TX10) X hw 0 30 (by decide) ⟨rfl, rfl, rfl⟩ (by decide) (fun _ h => List.mem_cons_of_mem _ (inlX10 _ h)) (List.mem_cons_of_mem _ wi_6_0) (v := .ref (ad 14)) rfl dX10_key_5 ?_
  refine lv_iload_n hx hb dX10_key_8 rfl (lv_at hl 1 rfl) ?_
  refine eb_lald (n := 6) X hw 14 (by decide) rfl rfl h0_ dX10_key_9 ?_
  refine lv_lxor hx hb dX10_key_10 ?_
  refine lv_topl (fun x1 ex1 => ?_)
  have hm : (fun (x2 : Int64) => (fun (x3 : Int64) => x3 ^^^ (eb_lushr x3 33)) ((x2 ^^^ (eb_lushr x2 33)) * (-4265267296055464877))) ((x1 ^^^ (eb_lushr x1 33)) * (-49064778989728563)) = mm := by rw [ex1]; exact hm
  refine lv_lstore_n (lv' := [(2, .long x1), (0, .ref (ad 0)), (1, .int a0)]) hx hb dX10_key_11 rfl hl (by decide) rfl (fun ls hl => ?_)
  refine lv_lload_n hx hb dX10_key_12 rfl (lv_at hl 0 rfl) ?_
  refine lv_lload_n hx hb dX10_key_13 rfl (lv_at hl 0 rfl) ?_
  refine lv_bipush (v := 33) hx hb dX10_key_14 (by decide) ?_
  refine lv_lushr (v := eb_lushr x1 33) hx hb dX10_key_16 rfl ?_
  refine lv_lxor hx hb dX10_key_17 ?_
  refine lv_ldc2 hx hb hown (hts _ (List.mem_cons_of_mem _ wi_36_20)) dX10_key_18 ?_
  refine lv_lmul hx hb dX10_key_21 ?_
  refine lv_topl (fun x2 ex2 => ?_)
  have hm : (fun (x3 : Int64) => x3 ^^^ (eb_lushr x3 33)) ((x2 ^^^ (eb_lushr x2 33)) * (-4265267296055464877)) = mm := by rw [ex2]; exact hm
  refine lv_lstore_n (lv' := [(2, .long x2), (0, .ref (ad 0)), (1, .int a0)]) hx hb dX10_key_22 rfl hl (by decide) rfl (fun ls hl => ?_)
  refine lv_lload_n hx hb dX10_key_23 rfl (lv_at hl 0 rfl) ?_
  refine lv_lload_n hx hb dX10_key_24 rfl (lv_at hl 0 rfl) ?_
  refine lv_bipush (v := 33) hx hb dX10_key_25 (by decide) ?_
  refine lv_lushr (v := eb_lushr x2 33) hx hb dX10_key_27 rfl ?_
  refine lv_lxor hx hb dX10_key_28 ?_
  refine lv_ldc2 hx hb hown (hts _ (List.mem_cons_of_mem _ wi_36_21)) dX10_key_29 ?_
  refine lv_lmul hx hb dX10_key_32 ?_
  refine lv_topl (fun x3 ex3 => ?_)
  have hm : x3 ^^^ (eb_lushr x3 33) = mm := by rw [ex3]; exact hm
  refine lv_lstore_n (lv' := [(2, .long x3), (0, .ref (ad 0)), (1, .int a0)]) hx hb dX10_key_33 rfl hl (by decide) rfl (fun ls hl => ?_)
  refine lv_lload_n hx hb dX10_key_34 rfl (lv_at hl 0 rfl) ?_
  refine lv_lload_n hx hb dX10_key_35 rfl (lv_at hl 0 rfl) ?_
  refine lv_bipush (v := 33) hx hb dX10_key_36 (by decide) ?_
  refine lv_lushr (v := eb_lushr x3 33) hx hb dX10_key_38 rfl ?_
  refine lv_lxor hx hb dX10_key_39 ?_
  subst hm
  exact eb_lret X hw rfl rfl rfl dX10_key_40

set_option maxHeartbeats 4000000 in
set_option maxRecDepth 100000 in
theorem c_X10_isCsr (l : Launch) (D : va_G) (cy : Nat → ClassId) (ad : Nat → Nat) (σ : eb_St) (a0 : Int32)  : eb_M l yX10_isCsr (Cond.code yX10_isCsr cX10_isCsr 1 (some .boolean) :: wsL_law) 1 25 D 18 cy rL ad σ [.int a0] (some (.int (eb_b (m_X10_isCsr a0)))) σ := by
  refine eb_start (own := RX10) (by decide) rfl rfl (Nat.le_of_ble_eq_true rfl) ?_
  intro p e s m args below meth c A ls X hw hl
  have hl : lv_has ls 1 [(0, .int a0)] := hl
  have hx := X.1.1
  have hb := X.1.2.1
  have hown := X.1.2.2.2.1
  have hts := X.1.2.2.2.2
  generalize hm : m_X10_isCsr a0 = mm
  have hm : (if a0 = 768 then true else (fun (z2 : Bool) => (if (eb_b z2) = 0 then (if a0 = 928 then true else (if a0 = 930 then true else (fun (z6 : Bool) => (if (eb_b z6) = 0 then (if a0 = 2818 then true else (if a0 = 3860 then true else false)) else true)) (m_X10_in a0.toInt64 944 959))) else true)) (m_X10_in a0.toInt64 832 835)) = mm := hm
  refine lv_iload_n hx hb dX10_isCsr_0 rfl (lv_at hl 0 rfl) ?_
  refine lv_sipush (v := 768) hx hb dX10_isCsr_1 (by decide) ?_
  refine lv_icmp_eq (tgt := 63) hx hb dX10_isCsr_4 (by decide) (fun h1 => ?_) (fun h1 => ?_)
  · have hm := (if_pos h1).symm.trans hm
    refine lv_iconst (v := 1) hx hb dX10_isCsr_63 (by decide) ?_
    refine lv_goto (tgt := 68) hx hb dX10_isCsr_64 (by decide) ?_
    subst hm
    exact eb_zret X hw rfl rfl rfl rfl dX10_isCsr_68
  · have hm := (if_neg h1).symm.trans hm
    refine lv_iload_n hx hb dX10_isCsr_7 rfl (lv_at hl 0 rfl) ?_
    refine lv_i2l (v := a0.toInt64) hx hb dX10_isCsr_8 rfl ?_
    refine lv_ldc2 hx hb hown (hts _ (List.mem_cons_of_mem _ wi_35_15)) dX10_isCsr_9 ?_
    refine lv_ldc2 hx hb hown (hts _ (List.mem_cons_of_mem _ wi_35_16)) dX10_isCsr_12 ?_
    obtain ⟨z2, qz2⟩ : ∃ t : Bool, t = m_X10_in a0.toInt64 832 835 := ⟨_, rfl⟩
    have hm : (if (eb_b z2) = 0 then (if a0 = 928 then true else (if a0 = 930 then true else (fun (z6 : Bool) => (if (eb_b z6) = 0 then (if a0 = 2818 then true else (if a0 = 3860 then true else false)) else true)) (m_X10_in a0.toInt64 944 959))) else true) = mm := by rw [qz2]; exact hm
    have hc : eb_M l yX10_in (Cond.code yX10_in cX10_in 6 (some .boolean) :: wsL_law) 0 0 D 18 cy rL ad σ [.long a0.toInt64, .long 832, .long 835] (some (.int (eb_b z2))) σ := by rw [qz2]; exact c_X10_in l D cy ad σ a0.toInt64 832 835
    refine eb_callS (n := 3) X hw hl.1 (rest := []) hc (eb_goodS wi_29_9 wi_29_10 wi_1_5 wi_29_11) rfl (by decide +kernel) ⟨by decide, by decide⟩ rfl rfl (Nat.le_of_ble_eq_true rfl) dX10_isCsr_15 ⟨by decide, by decide⟩ (st' := [.int (eb_b z2)]) rfl (fun H locs hw => ?_)
    refine lv_if_ne (tgt := 63) hx hb dX10_isCsr_18 (by decide) (fun h3 => ?_) (fun h3 => ?_)
    · have hm := (if_neg h3).symm.trans hm
      refine lv_iconst (v := 1) hx hb dX10_isCsr_63 (by decide) ?_
      refine lv_goto (tgt := 68) hx hb dX10_isCsr_64 (by decide) ?_
      subst hm
      exact eb_zret X hw rfl rfl rfl rfl dX10_isCsr_68
    · have hm := (if_pos h3).symm.trans hm
      refine lv_iload_n hx hb dX10_isCsr_21 rfl (lv_at hl 0 rfl) ?_
      refine lv_sipush (v := 928) hx hb dX10_isCsr_22 (by decide) ?_
      refine lv_icmp_eq (tgt := 63) hx hb dX10_isCsr_25 (by decide) (fun h4 => ?_) (fun h4 => ?_)
      · have hm := (if_pos h4).symm.trans hm
        refine lv_iconst (v := 1) hx hb dX10_isCsr_63 (by decide) ?_
        refine lv_goto (tgt := 68) hx hb dX10_isCsr_64 (by decide) ?_
        subst hm
        exact eb_zret X hw rfl rfl rfl rfl dX10_isCsr_68
      · have hm := (if_neg h4).symm.trans hm
        refine lv_iload_n hx hb dX10_isCsr_28 rfl (lv_at hl 0 rfl) ?_
        refine lv_sipush (v := 930) hx hb dX10_isCsr_29 (by decide) ?_
        refine lv_icmp_eq (tgt := 63) hx hb dX10_isCsr_32 (by decide) (fun h5 => ?_) (fun h5 => ?_)
        · have hm := (if_pos h5).symm.trans hm
          refine lv_iconst (v := 1) hx hb dX10_isCsr_63 (by decide) ?_
          refine lv_goto (tgt := 68) hx hb dX10_isCsr_64 (by decide) ?_
          subst hm
          exact eb_zret X hw rfl rfl rfl rfl dX10_isCsr_68
        · have hm := (if_neg h5).symm.trans hm
          refine lv_iload_n hx hb dX10_isCsr_35 rfl (lv_at hl 0 rfl) ?_
          refine lv_i2l (v := a0.toInt64) hx hb dX10_isCsr_36 rfl ?_
          refine lv_ldc2 hx hb hown (hts _ (List.mem_cons_of_mem _ wi_35_17)) dX10_isCsr_37 ?_
          refine lv_ldc2 hx hb hown (hts _ (List.mem_cons_of_mem _ wi_35_18)) dX10_isCsr_40 ?_
          obtain ⟨z6, qz6⟩ : ∃ t : Bool, t = m_X10_in a0.toInt64 944 959 := ⟨_, rfl⟩
          have hm : (if (eb_b z6) = 0 then (if a0 = 2818 then true else (if a0 = 3860 then true else false)) else true) = mm := by rw [qz6]; exact hm
          have hc : eb_M l yX10_in (Cond.code yX10_in cX10_in 6 (some .boolean) :: wsL_law) 0 0 D 18 cy rL ad σ [.long a0.toInt64, .long 944, .long 959] (some (.int (eb_b z6))) σ := by rw [qz6]; exact c_X10_in l D cy ad σ a0.toInt64 944 959
          refine eb_callS (n := 3) X hw hl.1 (rest := []) hc (eb_goodS wi_29_9 wi_29_10 wi_1_5 wi_29_11) rfl (by decide +kernel) ⟨by decide, by decide⟩ rfl rfl (Nat.le_of_ble_eq_true rfl) dX10_isCsr_43 ⟨by decide, by decide⟩ (st' := [.int (eb_b z6)]) rfl (fun H locs hw => ?_)
          refine lv_if_ne (tgt := 63) hx hb dX10_isCsr_46 (by decide) (fun h7 => ?_) (fun h7 => ?_)
          · have hm := (if_neg h7).symm.trans hm
            refine lv_iconst (v := 1) hx hb dX10_isCsr_63 (by decide) ?_
            refine lv_goto (tgt := 68) hx hb dX10_isCsr_64 (by decide) ?_
            subst hm
            exact eb_zret X hw rfl rfl rfl rfl dX10_isCsr_68
          · have hm := (if_pos h7).symm.trans hm
            refine lv_iload_n hx hb dX10_isCsr_49 rfl (lv_at hl 0 rfl) ?_
            refine lv_sipush (v := 2818) hx hb dX10_isCsr_50 (by decide) ?_
            refine lv_icmp_eq (tgt := 63) hx hb dX10_isCsr_53 (by decide) (fun h8 => ?_) (fun h8 => ?_)
            · have hm := (if_pos h8).symm.trans hm
              refine lv_iconst (v := 1) hx hb dX10_isCsr_63 (by decide) ?_
              refine lv_goto (tgt := 68) hx hb dX10_isCsr_64 (by decide) ?_
              subst hm
              exact eb_zret X hw rfl rfl rfl rfl dX10_isCsr_68
            · have hm := (if_neg h8).symm.trans hm
              refine lv_iload_n hx hb dX10_isCsr_56 rfl (lv_at hl 0 rfl) ?_
              refine lv_sipush (v := 3860) hx hb dX10_isCsr_57 (by decide) ?_
              refine lv_icmp_ne (tgt := 67) hx hb dX10_isCsr_60 (by decide) (fun h9 => ?_) (fun h9 => ?_)
              · have hm := (if_neg h9).symm.trans hm
                refine lv_iconst (v := 0) hx hb dX10_isCsr_67 (by decide) ?_
                subst hm
                exact eb_zret X hw rfl rfl rfl rfl dX10_isCsr_68
              · have hm := (if_pos h9).symm.trans hm
                refine lv_iconst (v := 1) hx hb dX10_isCsr_63 (by decide) ?_
                refine lv_goto (tgt := 68) hx hb dX10_isCsr_64 (by decide) ?_
                subst hm
                exact eb_zret X hw rfl rfl rfl rfl dX10_isCsr_68

set_option maxHeartbeats 4000000 in
set_option maxRecDepth 100000 in
theorem c_X10_state (l : Launch) (D : va_G) (cy : Nat → ClassId) (ad : Nat → Nat) (σ : eb_St) (a0 : Int32)  : eb_M l yX10_state (Cond.code yX10_state cX10_state 2 (some .int) :: wsL_law) 0 0 D 18 cy rL ad σ [.ref (ad 0), .int a0] (some (.int (m_X10_state σ a0))) σ := by
  refine eb_start (own := RX10) (by decide) rfl rfl (Nat.le_of_ble_eq_true rfl) ?_
  intro p e s m args below meth c A ls X hw hl
  have hl : lv_has ls 2 [(0, .ref (ad 0)), (1, .int a0)] := hl
  have hx := X.1.1
  have hb := X.1.2.1
  have hown := X.1.2.2.2.1
  have hts := X.1.2.2.2.2
  generalize hm : m_X10_state σ a0 = mm
  have hm : (if a0 = 0 then (if (σ.1 0 4) = 0 then 0 else 3) else if a0 = 1 then σ.1 0 5 else if a0 = 2 then σ.1 0 8 else if a0 = 3 then σ.1 0 6 else if a0 = 4 then σ.1 0 9 else if a0 = 5 then σ.1 0 10 else if a0 = 6 then σ.1 0 11 else if a0 = 7 then σ.1 0 12 else if a0 = 8 then σ.1 0 13 else (-1)) = mm := hm
  refine lv_iload_n hx hb dX10_state_0 rfl (lv_at hl 1 rfl) ?_
  by_cases h1 : a0 = 0
  · have hm := (if_pos h1).symm.trans hm
    refine lv_tableIn (off := 51) (tgt := 52) hx hb dX10_state_1 (by rw [h1]; decide) (by rw [h1]; decide) (by rw [h1]; rfl) (by decide) ?_
    refine lv_aload_n hx hb dX10_state_52 rfl (lv_at hl 0 rfl) ?_
    refine eb_get (T := TX10) X hw 0 4 (by decide) ⟨rfl, rfl, rfl⟩ (by decide) (fun _ h => List.mem_cons_of_mem _ (inlX10 _ h)) (List.mem_cons_of_mem _ wi_5_11) (v := .int (σ.1 0 4)) rfl dX10_state_53 ?_
    refine lv_if_eq (tgt := 63) hx hb dX10_state_56 (by decide) (fun h2 => ?_) (fun h2 => ?_)
    · have hm := (if_pos h2).symm.trans hm
      refine lv_iconst (v := 0) hx hb dX10_state_63 (by decide) ?_
      subst hm
      exact eb_iret X hw rfl rfl rfl dX10_state_64
    · have hm := (if_neg h2).symm.trans hm
      refine lv_iconst (v := 3) hx hb dX10_state_59 (by decide) ?_
      refine lv_goto (tgt := 64) hx hb dX10_state_60 (by decide) ?_
      subst hm
      exact eb_iret X hw rfl rfl rfl dX10_state_64
  · have hm := (if_neg h1).symm.trans hm
    by_cases h3 : a0 = 1
    · have hm := (if_pos h3).symm.trans hm
      refine lv_tableIn (off := 64) (tgt := 65) hx hb dX10_state_1 (by rw [h3]; decide) (by rw [h3]; decide) (by rw [h3]; rfl) (by decide) ?_
      refine lv_aload_n hx hb dX10_state_65 rfl (lv_at hl 0 rfl) ?_
      refine eb_get (T := TX10) X hw 0 5 (by decide) ⟨rfl, rfl, rfl⟩ (by decide) (fun _ h => List.mem_cons_of_mem _ (inlX10 _ h)) (List.mem_cons_of_mem _ wi_9_8) (v := .int (σ.1 0 5)) rfl dX10_state_66 ?_
      subst hm
      exact eb_iret X hw rfl rfl rfl dX10_state_69
    · have hm := (if_neg h3).symm.trans hm
      by_cases h4 : a0 = 2
      · have hm := (if_pos h4).symm.trans hm
        refine lv_tableIn (off := 69) (tgt := 70) hx hb dX10_state_1 (by rw [h4]; decide) (by rw [h4]; decide) (by rw [h4]; rfl) (by decide) ?_
        refine lv_aload_n hx hb dX10_state_70 rfl (lv_at hl 0 rfl) ?_
        refine eb_get (T := TX10) X hw 0 8 (by decide) ⟨rfl, rfl, rfl⟩ (by decide) (fun _ h => List.mem_cons_of_mem _ (inlX10 _ h)) (List.mem_cons_of_mem _ wi_5_13) (v := .int (σ.1 0 8)) rfl dX10_state_71 ?_
        subst hm
        exact eb_iret X hw rfl rfl rfl dX10_state_74
      · have hm := (if_neg h4).symm.trans hm
        by_cases h5 : a0 = 3
        · have hm := (if_pos h5).symm.trans hm
          refine lv_tableIn (off := 74) (tgt := 75) hx hb dX10_state_1 (by rw [h5]; decide) (by rw [h5]; decide) (by rw [h5]; rfl) (by decide) ?_
          refine lv_aload_n hx hb dX10_state_75 rfl (lv_at hl 0 rfl) ?_
          refine eb_get (T := TX10) X hw 0 6 (by decide) ⟨rfl, rfl, rfl⟩ (by decide) (fun _ h => List.mem_cons_of_mem _ (inlX10 _ h)) (List.mem_cons_of_mem _ wi_5_12) (v := .int (σ.1 0 6)) rfl dX10_state_76 ?_
          subst hm
          exact eb_iret X hw rfl rfl rfl dX10_state_79
        · have hm := (if_neg h5).symm.trans hm
          by_cases h6 : a0 = 4
          · have hm := (if_pos h6).symm.trans hm
            refine lv_tableIn (off := 79) (tgt := 80) hx hb dX10_state_1 (by rw [h6]; decide) (by rw [h6]; decide) (by rw [h6]; rfl) (by decide) ?_
            refine lv_aload_n hx hb dX10_state_80 rfl (lv_at hl 0 rfl) ?_
            refine eb_get (T := TX10) X hw 0 9 (by decide) ⟨rfl, rfl, rfl⟩ (by decide) (fun _ h => List.mem_cons_of_mem _ (inlX10 _ h)) (List.mem_cons_of_mem _ wi_9_10) (v := .int (σ.1 0 9)) rfl dX10_state_81 ?_
            subst hm
            exact eb_iret X hw rfl rfl rfl dX10_state_84
          · have hm := (if_neg h6).symm.trans hm
            by_cases h7 : a0 = 5
            · have hm := (if_pos h7).symm.trans hm
              refine lv_tableIn (off := 84) (tgt := 85) hx hb dX10_state_1 (by rw [h7]; decide) (by rw [h7]; decide) (by rw [h7]; rfl) (by decide) ?_
              refine lv_aload_n hx hb dX10_state_85 rfl (lv_at hl 0 rfl) ?_
              refine eb_get (T := TX10) X hw 0 10 (by decide) ⟨rfl, rfl, rfl⟩ (by decide) (fun _ h => List.mem_cons_of_mem _ (inlX10 _ h)) (List.mem_cons_of_mem _ wi_9_11) (v := .int (σ.1 0 10)) rfl dX10_state_86 ?_
              subst hm
              exact eb_iret X hw rfl rfl rfl dX10_state_89
            · have hm := (if_neg h7).symm.trans hm
              by_cases h8 : a0 = 6
              · have hm := (if_pos h8).symm.trans hm
                refine lv_tableIn (off := 89) (tgt := 90) hx hb dX10_state_1 (by rw [h8]; decide) (by rw [h8]; decide) (by rw [h8]; rfl) (by decide) ?_
                refine lv_aload_n hx hb dX10_state_90 rfl (lv_at hl 0 rfl) ?_
                refine eb_get (T := TX10) X hw 0 11 (by decide) ⟨rfl, rfl, rfl⟩ (by decide) (fun _ h => List.mem_cons_of_mem _ (inlX10 _ h)) (List.mem_cons_of_mem _ wi_9_12) (v := .int (σ.1 0 11)) rfl dX10_state_91 ?_
                subst hm
                exact eb_iret X hw rfl rfl rfl dX10_state_94
              · have hm := (if_neg h8).symm.trans hm
                by_cases h9 : a0 = 7
                · have hm := (if_pos h9).symm.trans hm
                  refine lv_tableIn (off := 94) (tgt := 95) hx hb dX10_state_1 (by rw [h9]; decide) (by rw [h9]; decide) (by rw [h9]; rfl) (by decide) ?_
                  refine lv_aload_n hx hb dX10_state_95 rfl (lv_at hl 0 rfl) ?_
                  refine eb_get (T := TX10) X hw 0 12 (by decide) ⟨rfl, rfl, rfl⟩ (by decide) (fun _ h => List.mem_cons_of_mem _ (inlX10 _ h)) (List.mem_cons_of_mem _ wi_9_13) (v := .int (σ.1 0 12)) rfl dX10_state_96 ?_
                  subst hm
                  exact eb_iret X hw rfl rfl rfl dX10_state_99
                · have hm := (if_neg h9).symm.trans hm
                  by_cases h10 : a0 = 8
                  · have hm := (if_pos h10).symm.trans hm
                    refine lv_tableIn (off := 99) (tgt := 100) hx hb dX10_state_1 (by rw [h10]; decide) (by rw [h10]; decide) (by rw [h10]; rfl) (by decide) ?_
                    refine lv_aload_n hx hb dX10_state_100 rfl (lv_at hl 0 rfl) ?_
                    refine eb_get (T := TX10) X hw 0 13 (by decide) ⟨rfl, rfl, rfl⟩ (by decide) (fun _ h => List.mem_cons_of_mem _ (inlX10 _ h)) (List.mem_cons_of_mem _ wi_9_14) (v := .int (σ.1 0 13)) rfl dX10_state_101 ?_
                    subst hm
                    exact eb_iret X hw rfl rfl rfl dX10_state_104
                  · have hm := (if_neg h10).symm.trans hm
                    refine lv_tableOut (tgt := 105) hx hb dX10_state_1 (by have qh1 := lv_neT h1 (a := 0) (by decide); have qh3 := lv_neT h3 (a := 1) (by decide); have qh4 := lv_neT h4 (a := 2) (by decide); have qh5 := lv_neT h5 (a := 3) (by decide); have qh6 := lv_neT h6 (a := 4) (by decide); have qh7 := lv_neT h7 (a := 5) (by decide); have qh8 := lv_neT h8 (a := 6) (by decide); have qh9 := lv_neT h9 (a := 7) (by decide); have qh10 := lv_neT h10 (a := 8) (by decide); omega) (by decide) ?_
                    refine lv_iconst (v := (-1)) hx hb dX10_state_105 (by decide) ?_
                    subst hm
                    exact eb_iret X hw rfl rfl rfl dX10_state_106

set_option maxHeartbeats 4000000 in
set_option maxRecDepth 100000 in
theorem c_X10_divided (l : Launch) (D : va_G) (cy : Nat → ClassId) (ad : Nat → Nat) (σ : eb_St) (a0 : Int64) (a1 : Int64) (h0_ : ¬ a1 = 0) : eb_M l yX10_divided (Cond.code yX10_divided cX10_divided 6 (some .long) :: wsL_law) 1 23 D 18 cy rL ad σ [.long a0, .long a1] (some (.long (m_X10_divided a0 a1))) σ := by
  refine eb_start (own := RX10) (by decide) rfl rfl (Nat.le_of_ble_eq_true rfl) ?_
  intro p e s m args below meth c A ls X hw hl
  have hl : lv_has ls 6 [(0, .long a0), (2, .long a1)] := hl
  have hx := X.1.1
  have hb := X.1.2.1
  have hown := X.1.2.2.2.1
  have hts := X.1.2.2.2.2
  generalize hm : m_X10_divided a0 a1 = mm
  have hm : (if (0 : Int64) ≤ a1 then (if a0 < 0 then (fun (x3 : Int64) => (fun (z4 : Bool) => (if (eb_b z4) = 0 then x3 + 1 else x3)) (m_X10_isBelow (a0 - (x3 * a1)) a1)) (eb_lshl ((eb_lushr a0 1) / a1) 1) else a0 / a1) else (fun (z6 : Bool) => (if (eb_b z6) = 0 then 1 else 0)) (m_X10_isBelow a0 a1)) = mm := hm
  refine lv_lload_n hx hb dX10_divided_0 rfl (lv_at hl 1 rfl) ?_
  refine lv_lconst (v := 0) hx hb dX10_divided_1 (by decide) ?_
  refine eb_lif_ge (tgt := 20) hx hb dX10_divided_2 dX10_divided_3 (by decide) (fun h1 => ?_) (fun h1 => ?_)
  · have hm := (if_pos h1).symm.trans hm
    refine lv_lload_n hx hb dX10_divided_20 rfl (lv_at hl 0 rfl) ?_
    refine lv_lconst (v := 0) hx hb dX10_divided_21 (by decide) ?_
    refine eb_lif_lt (tgt := 30) hx hb dX10_divided_22 dX10_divided_23 (by decide) (fun h2 => ?_) (fun h2 => ?_)
    · have hm := (if_pos h2).symm.trans hm
      refine lv_lload_n hx hb dX10_divided_30 rfl (lv_at hl 0 rfl) ?_
      refine lv_iconst (v := 1) hx hb dX10_divided_31 (by decide) ?_
      refine lv_lushr (v := eb_lushr a0 1) hx hb dX10_divided_32 rfl ?_
      refine lv_lload_n hx hb dX10_divided_33 rfl (lv_at hl 1 rfl) ?_
      refine lv_ldiv hx hb dX10_divided_34 (by assumption) ?_
      refine lv_iconst (v := 1) hx hb dX10_divided_35 (by decide) ?_
      refine lv_lshl (v := eb_lshl ((eb_lushr a0 1) / a1) 1) hx hb dX10_divided_36 rfl ?_
      refine lv_topl (fun x3 ex3 => ?_)
      have hm : (fun (z4 : Bool) => (if (eb_b z4) = 0 then x3 + 1 else x3)) (m_X10_isBelow (a0 - (x3 * a1)) a1) = mm := by rw [ex3]; exact hm
      refine lv_lstore (lv' := [(4, .long x3), (0, .long a0), (2, .long a1)]) hx hb dX10_divided_37 hl (by decide) rfl (fun ls hl => ?_)
      refine lv_lload_n hx hb dX10_divided_39 rfl (lv_at hl 1 rfl) ?_
      refine lv_lload hx hb dX10_divided_40 (lv_at hl 0 rfl) ?_
      refine lv_lload_n hx hb dX10_divided_42 rfl (lv_at hl 2 rfl) ?_
      refine lv_lmul hx hb dX10_divided_43 ?_
      refine lv_lsub hx hb dX10_divided_44 ?_
      refine lv_lload_n hx hb dX10_divided_45 rfl (lv_at hl 2 rfl) ?_
      obtain ⟨z4, qz4⟩ : ∃ t : Bool, t = m_X10_isBelow (a0 - (x3 * a1)) a1 := ⟨_, rfl⟩
      have hm : (if (eb_b z4) = 0 then x3 + 1 else x3) = mm := by rw [qz4]; exact hm
      have hc : eb_M l yX10_isBelow (Cond.code yX10_isBelow cX10_isBelow 4 (some .boolean) :: wsL_law) 0 0 D 18 cy rL ad σ [.long (a0 - (x3 * a1)), .long a1] (some (.int (eb_b z4))) σ := by rw [qz4]; exact c_X10_isBelow l D cy ad σ (a0 - (x3 * a1)) a1
      refine eb_callS (n := 2) X hw hl.1 (rest := []) hc (eb_goodS wi_33_12 wi_33_13 wi_1_5 wi_33_14) rfl (by decide +kernel) ⟨by decide, by decide⟩ rfl rfl (Nat.le_of_ble_eq_true rfl) dX10_divided_46 ⟨by decide, by decide⟩ (st' := [.int (eb_b z4)]) rfl (fun H locs hw => ?_)
      refine lv_if_eq (tgt := 57) hx hb dX10_divided_49 (by decide) (fun h5 => ?_) (fun h5 => ?_)
      · have hm := (if_pos h5).symm.trans hm
        refine lv_lload hx hb dX10_divided_57 (lv_at hl 0 rfl) ?_
        refine lv_lconst (v := 1) hx hb dX10_divided_59 (by decide) ?_
        refine lv_ladd hx hb dX10_divided_60 ?_
        subst hm
        exact eb_lret X hw rfl rfl rfl dX10_divided_61
      · have hm := (if_neg h5).symm.trans hm
        refine lv_lload hx hb dX10_divided_52 (lv_at hl 0 rfl) ?_
        refine lv_goto (tgt := 61) hx hb dX10_divided_54 (by decide) ?_
        subst hm
        exact eb_lret X hw rfl rfl rfl dX10_divided_61
    · have hm := (if_neg h2).symm.trans hm
      refine lv_lload_n hx hb dX10_divided_26 rfl (lv_at hl 0 rfl) ?_
      refine lv_lload_n hx hb dX10_divided_27 rfl (lv_at hl 1 rfl) ?_
      refine lv_ldiv hx hb dX10_divided_28 (by assumption) ?_
      subst hm
      exact eb_lret X hw rfl rfl rfl dX10_divided_29
  · have hm := (if_neg h1).symm.trans hm
    refine lv_lload_n hx hb dX10_divided_6 rfl (lv_at hl 0 rfl) ?_
    refine lv_lload_n hx hb dX10_divided_7 rfl (lv_at hl 1 rfl) ?_
    obtain ⟨z6, qz6⟩ : ∃ t : Bool, t = m_X10_isBelow a0 a1 := ⟨_, rfl⟩
    have hm : (if (eb_b z6) = 0 then 1 else 0) = mm := by rw [qz6]; exact hm
    have hc : eb_M l yX10_isBelow (Cond.code yX10_isBelow cX10_isBelow 4 (some .boolean) :: wsL_law) 0 0 D 18 cy rL ad σ [.long a0, .long a1] (some (.int (eb_b z6))) σ := by rw [qz6]; exact c_X10_isBelow l D cy ad σ a0 a1
    refine eb_callS (n := 2) X hw hl.1 (rest := []) hc (eb_goodS wi_33_12 wi_33_13 wi_1_5 wi_33_14) rfl (by decide +kernel) ⟨by decide, by decide⟩ rfl rfl (Nat.le_of_ble_eq_true rfl) dX10_divided_8 ⟨by decide, by decide⟩ (st' := [.int (eb_b z6)]) rfl (fun H locs hw => ?_)
    refine lv_if_eq (tgt := 18) hx hb dX10_divided_11 (by decide) (fun h7 => ?_) (fun h7 => ?_)
    · have hm := (if_pos h7).symm.trans hm
      refine lv_lconst (v := 1) hx hb dX10_divided_18 (by decide) ?_
      subst hm
      exact eb_lret X hw rfl rfl rfl dX10_divided_19
    · have hm := (if_neg h7).symm.trans hm
      refine lv_lconst (v := 0) hx hb dX10_divided_14 (by decide) ?_
      refine lv_goto (tgt := 19) hx hb dX10_divided_15 (by decide) ?_
      subst hm
      exact eb_lret X hw rfl rfl rfl dX10_divided_19

set_option maxHeartbeats 4000000 in
set_option maxRecDepth 100000 in
theorem c_X10_upper (l : Launch) (D : va_G) (cy : Nat → ClassId) (ad : Nat → Nat) (σ : eb_St) (a0 : Int64) (a1 : Int64)  : eb_M l yX10_upper (Cond.code yX10_upper cX10_upper 16 (some .long) :: wsL_law) 0 0 D 18 cy rL ad σ [.long a0, .long a1] (some (.long (m_X10_upper a0 a1))) σ := by
  refine eb_start (own := RX10) (by decide) rfl rfl (Nat.le_of_ble_eq_true rfl) ?_
  intro p e s m args below meth c A ls X hw hl
  have hl : lv_has ls 16 [(0, .long a0), (2, .long a1)] := hl
  have hx := X.1.1
  have hb := X.1.2.1
  have hown := X.1.2.2.2.1
  have hts := X.1.2.2.2.2
  generalize hm : m_X10_upper a0 a1 = mm
  have hm : (fun (x1 : Int64) => (fun (x2 : Int64) => (fun (x3 : Int64) => (fun (x4 : Int64) => (fun (x5 : Int64) => (fun (x6 : Int64) => ((x2 * x4) + (eb_lushr x5 32)) + (eb_lushr x6 32)) ((x1 * x4) + (x5 &&& 4294967295))) ((x2 * x3) + (eb_lushr (x1 * x3) 32))) (eb_lushr a1 32)) (a1 &&& 4294967295)) (eb_lushr a0 32)) (a0 &&& 4294967295) = mm := hm
  refine lv_lload_n hx hb dX10_upper_0 rfl (lv_at hl 0 rfl) ?_
  refine lv_ldc2 hx hb hown (hts _ (List.mem_cons_of_mem _ wi_33_3)) dX10_upper_1 ?_
  refine lv_land hx hb dX10_upper_4 ?_
  refine lv_topl (fun x1 ex1 => ?_)
  have hm : (fun (x2 : Int64) => (fun (x3 : Int64) => (fun (x4 : Int64) => (fun (x5 : Int64) => (fun (x6 : Int64) => ((x2 * x4) + (eb_lushr x5 32)) + (eb_lushr x6 32)) ((x1 * x4) + (x5 &&& 4294967295))) ((x2 * x3) + (eb_lushr (x1 * x3) 32))) (eb_lushr a1 32)) (a1 &&& 4294967295)) (eb_lushr a0 32) = mm := by rw [ex1]; exact hm
  refine lv_lstore (lv' := [(4, .long x1), (0, .long a0), (2, .long a1)]) hx hb dX10_upper_5 hl (by decide) rfl (fun ls hl => ?_)
  refine lv_lload_n hx hb dX10_upper_7 rfl (lv_at hl 1 rfl) ?_
  refine lv_bipush (v := 32) hx hb dX10_upper_8 (by decide) ?_
  refine lv_lushr (v := eb_lushr a0 32) hx hb dX10_upper_10 rfl ?_
  refine lv_topl (fun x2 ex2 => ?_)
  have hm : (fun (x3 : Int64) => (fun (x4 : Int64) => (fun (x5 : Int64) => (fun (x6 : Int64) => ((x2 * x4) + (eb_lushr x5 32)) + (eb_lushr x6 32)) ((x1 * x4) + (x5 &&& 4294967295))) ((x2 * x3) + (eb_lushr (x1 * x3) 32))) (eb_lushr a1 32)) (a1 &&& 4294967295) = mm := by rw [ex2]; exact hm
  refine lv_lstore (lv' := [(6, .long x2), (4, .long x1), (0, .long a0), (2, .long a1)]) hx hb dX10_upper_11 hl (by decide) rfl (fun ls hl => ?_)
  refine lv_lload_n hx hb dX10_upper_13 rfl (lv_at hl 3 rfl) ?_
  refine lv_ldc2 hx hb hown (hts _ (List.mem_cons_of_mem _ wi_33_3)) dX10_upper_14 ?_
  refine lv_land hx hb dX10_upper_17 ?_
  refine lv_topl (fun x3 ex3 => ?_)
  have hm : (fun (x4 : Int64) => (fun (x5 : Int64) => (fun (x6 : Int64) => ((x2 * x4) + (eb_lushr x5 32)) + (eb_lushr x6 32)) ((x1 * x4) + (x5 &&& 4294967295))) ((x2 * x3) + (eb_lushr (x1 * x3) 32))) (eb_lushr a1 32) = mm := by rw [ex3]; exact hm
  refine lv_lstore (lv' := [(8, .long x3), (6, .long x2), (4, .long x1), (0, .long a0), (2, .long a1)]) hx hb dX10_upper_18 hl (by decide) rfl (fun ls hl => ?_)
  refine lv_lload_n hx hb dX10_upper_20 rfl (lv_at hl 4 rfl) ?_
  refine lv_bipush (v := 32) hx hb dX10_upper_21 (by decide) ?_
  refine lv_lushr (v := eb_lushr a1 32) hx hb dX10_upper_23 rfl ?_
  refine lv_topl (fun x4 ex4 => ?_)
  have hm : (fun (x5 : Int64) => (fun (x6 : Int64) => ((x2 * x4) + (eb_lushr x5 32)) + (eb_lushr x6 32)) ((x1 * x4) + (x5 &&& 4294967295))) ((x2 * x3) + (eb_lushr (x1 * x3) 32)) = mm := by rw [ex4]; exact hm
  refine lv_lstore (lv' := [(10, .long x4), (8, .long x3), (6, .long x2), (4, .long x1), (0, .long a0), (2, .long a1)]) hx hb dX10_upper_24 hl (by decide) rfl (fun ls hl => ?_)
  refine lv_lload hx hb dX10_upper_26 (lv_at hl 2 rfl) ?_
  refine lv_lload hx hb dX10_upper_28 (lv_at hl 1 rfl) ?_
  refine lv_lmul hx hb dX10_upper_30 ?_
  refine lv_lload hx hb dX10_upper_31 (lv_at hl 3 rfl) ?_
  refine lv_lload hx hb dX10_upper_33 (lv_at hl 1 rfl) ?_
  refine lv_lmul hx hb dX10_upper_35 ?_
  refine lv_bipush (v := 32) hx hb dX10_upper_36 (by decide) ?_
  refine lv_lushr (v := eb_lushr (x1 * x3) 32) hx hb dX10_upper_38 rfl ?_
  refine lv_ladd hx hb dX10_upper_39 ?_
  refine lv_topl (fun x5 ex5 => ?_)
  have hm : (fun (x6 : Int64) => ((x2 * x4) + (eb_lushr x5 32)) + (eb_lushr x6 32)) ((x1 * x4) + (x5 &&& 4294967295)) = mm := by rw [ex5]; exact hm
  refine lv_lstore (lv' := [(12, .long x5), (10, .long x4), (8, .long x3), (6, .long x2), (4, .long x1), (0, .long a0), (2, .long a1)]) hx hb dX10_upper_40 hl (by decide) rfl (fun ls hl => ?_)
  refine lv_lload hx hb dX10_upper_42 (lv_at hl 4 rfl) ?_
  refine lv_lload hx hb dX10_upper_44 (lv_at hl 1 rfl) ?_
  refine lv_lmul hx hb dX10_upper_46 ?_
  refine lv_lload hx hb dX10_upper_47 (lv_at hl 0 rfl) ?_
  refine lv_ldc2 hx hb hown (hts _ (List.mem_cons_of_mem _ wi_33_3)) dX10_upper_49 ?_
  refine lv_land hx hb dX10_upper_52 ?_
  refine lv_ladd hx hb dX10_upper_53 ?_
  refine lv_topl (fun x6 ex6 => ?_)
  have hm : ((x2 * x4) + (eb_lushr x5 32)) + (eb_lushr x6 32) = mm := by rw [ex6]; exact hm
  refine lv_lstore (lv' := [(14, .long x6), (12, .long x5), (10, .long x4), (8, .long x3), (6, .long x2), (4, .long x1), (0, .long a0), (2, .long a1)]) hx hb dX10_upper_54 hl (by decide) rfl (fun ls hl => ?_)
  refine lv_lload hx hb dX10_upper_56 (lv_at hl 4 rfl) ?_
  refine lv_lload hx hb dX10_upper_58 (lv_at hl 2 rfl) ?_
  refine lv_lmul hx hb dX10_upper_60 ?_
  refine lv_lload hx hb dX10_upper_61 (lv_at hl 1 rfl) ?_
  refine lv_bipush (v := 32) hx hb dX10_upper_63 (by decide) ?_
  refine lv_lushr (v := eb_lushr x5 32) hx hb dX10_upper_65 rfl ?_
  refine lv_ladd hx hb dX10_upper_66 ?_
  refine lv_lload hx hb dX10_upper_67 (lv_at hl 0 rfl) ?_
  refine lv_bipush (v := 32) hx hb dX10_upper_69 (by decide) ?_
  refine lv_lushr (v := eb_lushr x6 32) hx hb dX10_upper_71 rfl ?_
  refine lv_ladd hx hb dX10_upper_72 ?_
  subst hm
  exact eb_lret X hw rfl rfl rfl dX10_upper_73

set_option maxHeartbeats 4000000 in
set_option maxRecDepth 100000 in
theorem k_X10_product_68 {p : Program} {l : Launch} {e : Env} {s : State} {m : MethodId} {args : Array Value} {below : List Frame} {meth : Method} {c : Code} {A : Nat → Prop} {H : Heap} {locs : List Loc} {ls : Array Slot} {D : va_G} {cy : Nat → ClassId} {ad : Nat → Nat} (X : eb_X p s m args meth c cX10_product 5 RX10 (Cond.code yX10_product cX10_product 5 (some .long) :: wsL_law) (some .long) D cy A)   (σ : eb_St) (v1 : Int64) (v3 : Int64) (s0 : Int64) (s1 : Int64)  {mm : Int64} (hm : (m_X10_product_68  σ v1 v3 s0 s1) = mm) (hw : eb_H D 18 cy rL ad A s.heap σ H locs) (hl : lv_has ls 5 [(1, .long v1), (3, .long v3)]) : W p l e ({ frames := 2, cells := 0, slots := 0, locals := 48 } : Room) s m args below meth c H locs 0 0 (MQ below (eb_Q D 18 cy rL ad A (some (.long mm)) σ) args s 0 0 A) (F0 m 68 ls [.long s0, .long s1]) := by
  have hx := X.1.1
  have hb := X.1.2.1
  have hown := X.1.2.2.2.1
  have hts := X.1.2.2.2.2
  have hm : (if (0 : Int64) ≤ v3 then (s1 - s0) - 0 else (s1 - s0) - v1) = mm := hm
  refine lv_lsub hx hb dX10_product_68 ?_
  refine lv_lload_n hx hb dX10_product_69 rfl (lv_at hl 1 rfl) ?_
  refine lv_lconst (v := 0) hx hb dX10_product_70 (by decide) ?_
  refine eb_lif_ge (tgt := 79) hx hb dX10_product_71 dX10_product_72 (by decide) (fun h21 => ?_) (fun h21 => ?_)
  · have hm := (if_pos h21).symm.trans hm
    refine lv_lconst (v := 0) hx hb dX10_product_79 (by decide) ?_
    refine lv_lsub hx hb dX10_product_80 ?_
    subst hm
    exact eb_lret X hw rfl rfl rfl dX10_product_81
  · have hm := (if_neg h21).symm.trans hm
    refine lv_lload_n hx hb dX10_product_75 rfl (lv_at hl 0 rfl) ?_
    refine lv_goto (tgt := 80) hx hb dX10_product_76 (by decide) ?_
    refine lv_lsub hx hb dX10_product_80 ?_
    subst hm
    exact eb_lret X hw rfl rfl rfl dX10_product_81
set_option maxHeartbeats 4000000 in
set_option maxRecDepth 100000 in
theorem c_X10_product (l : Launch) (D : va_G) (cy : Nat → ClassId) (ad : Nat → Nat) (σ : eb_St) (a0 : Int64) (a1 : Int64)  : eb_M l yX10_product (Cond.code yX10_product cX10_product 5 (some .long) :: wsL_law) 2 48 D 18 cy rL ad σ [.ref (ad 0), .long a0, .long a1] (some (.long (m_X10_product σ a0 a1))) σ := by
  refine eb_start (own := RX10) (by decide) rfl rfl (Nat.le_of_ble_eq_true rfl) ?_
  intro p e s m args below meth c A ls X hw hl
  have hl : lv_has ls 5 [(0, .ref (ad 0)), (1, .long a0), (3, .long a1)] := hl
  have hx := X.1.1
  have hb := X.1.2.1
  have hown := X.1.2.2.2.1
  have hts := X.1.2.2.2.2
  generalize hm : m_X10_product σ a0 a1 = mm
  have hm : (if (σ.1 0 41) = 0 then a0 * a1 else if (σ.1 0 41) = 1 then (fun (z3 : Int64) => (if (0 : Int64) ≤ a0 then m_X10_product_68  σ a0 a1 0 z3 else m_X10_product_68  σ a0 a1 a1 z3)) (m_X10_upper a0 a1) else if (σ.1 0 41) = 2 then (fun (z6 : Int64) => (if (0 : Int64) ≤ a0 then z6 - 0 else z6 - a1)) (m_X10_upper a0 a1) else if (σ.1 0 41) = 3 then (fun (z9 : Int64) => z9) (m_X10_upper a0 a1) else if (σ.1 0 41) = 4 then (if a1 = 0 then (-1) else (if a1 = (-1) then -a0 else a0 / a1)) else if (σ.1 0 41) = 5 then (if a1 = 0 then (-1) else (fun (z15 : Int64) => z15) (m_X10_divided a0 a1)) else if (σ.1 0 41) = 6 then (if a1 = 0 then a0 else (if a1 = (-1) then 0 else a0 - a0 / a1 * a1)) else (if a1 = 0 then a0 else (fun (z20 : Int64) => a0 - (z20 * a1)) (m_X10_divided a0 a1))) = mm := hm
  refine lv_aload_n hx hb dX10_product_0 rfl (lv_at hl 0 rfl) ?_
  refine eb_get (T := TX10) X hw 0 41 (by decide) ⟨rfl, rfl, rfl⟩ (by decide) (fun _ h => List.mem_cons_of_mem _ (inlX10 _ h)) (List.mem_cons_of_mem _ wi_30_10) (v := .int (σ.1 0 41)) rfl dX10_product_1 ?_
  by_cases h1 : (σ.1 0 41) = 0
  · have hm := (if_pos h1).symm.trans hm
    refine lv_tableIn (off := 44) (tgt := 48) hx hb dX10_product_4 (by rw [h1]; decide) (by rw [h1]; decide) (by rw [h1]; rfl) (by decide) ?_
    refine lv_lload_n hx hb dX10_product_48 rfl (lv_at hl 1 rfl) ?_
    refine lv_lload_n hx hb dX10_product_49 rfl (lv_at hl 2 rfl) ?_
    refine lv_lmul hx hb dX10_product_50 ?_
    subst hm
    exact eb_lret X hw rfl rfl rfl dX10_product_51
  · have hm := (if_neg h1).symm.trans hm
    by_cases h2 : (σ.1 0 41) = 1
    · have hm := (if_pos h2).symm.trans hm
      refine lv_tableIn (off := 48) (tgt := 52) hx hb dX10_product_4 (by rw [h2]; decide) (by rw [h2]; decide) (by rw [h2]; rfl) (by decide) ?_
      refine lv_lload_n hx hb dX10_product_52 rfl (lv_at hl 1 rfl) ?_
      refine lv_lload_n hx hb dX10_product_53 rfl (lv_at hl 2 rfl) ?_
      obtain ⟨z3, qz3⟩ : ∃ t : Int64, t = m_X10_upper a0 a1 := ⟨_, rfl⟩
      have hm : (if (0 : Int64) ≤ a0 then m_X10_product_68  σ a0 a1 0 z3 else m_X10_product_68  σ a0 a1 a1 z3) = mm := by rw [qz3]; exact hm
      have hc : eb_M l yX10_upper (Cond.code yX10_upper cX10_upper 16 (some .long) :: wsL_law) 0 0 D 18 cy rL ad σ [.long a0, .long a1] (some (.long z3)) σ := by rw [qz3]; exact c_X10_upper l D cy ad σ a0 a1
      refine eb_callS (n := 2) X hw hl.1 (rest := []) hc (eb_goodS wi_34_18 wi_34_19 wi_1_5 wi_34_20) rfl (by decide +kernel) ⟨by decide, by decide⟩ rfl rfl (Nat.le_of_ble_eq_true rfl) dX10_product_54 ⟨by decide, by decide⟩ (st' := [.long z3]) rfl (fun H locs hw => ?_)
      refine lv_lload_n hx hb dX10_product_57 rfl (lv_at hl 1 rfl) ?_
      refine lv_lconst (v := 0) hx hb dX10_product_58 (by decide) ?_
      refine eb_lif_ge (tgt := 67) hx hb dX10_product_59 dX10_product_60 (by decide) (fun h4 => ?_) (fun h4 => ?_)
      · have hm := (if_pos h4).symm.trans hm
        refine lv_lconst (v := 0) hx hb dX10_product_67 (by decide) ?_
        exact k_X10_product_68 X   σ a0 a1 0 z3 hm hw (lv_sub hl [1, 2] rfl)
      · have hm := (if_neg h4).symm.trans hm
        refine lv_lload_n hx hb dX10_product_63 rfl (lv_at hl 2 rfl) ?_
        refine lv_goto (tgt := 68) hx hb dX10_product_64 (by decide) ?_
        exact k_X10_product_68 X   σ a0 a1 a1 z3 hm hw (lv_sub hl [1, 2] rfl)
    · have hm := (if_neg h2).symm.trans hm
      by_cases h5 : (σ.1 0 41) = 2
      · have hm := (if_pos h5).symm.trans hm
        refine lv_tableIn (off := 78) (tgt := 82) hx hb dX10_product_4 (by rw [h5]; decide) (by rw [h5]; decide) (by rw [h5]; rfl) (by decide) ?_
        refine lv_lload_n hx hb dX10_product_82 rfl (lv_at hl 1 rfl) ?_
        refine lv_lload_n hx hb dX10_product_83 rfl (lv_at hl 2 rfl) ?_
        obtain ⟨z6, qz6⟩ : ∃ t : Int64, t = m_X10_upper a0 a1 := ⟨_, rfl⟩
        have hm : (if (0 : Int64) ≤ a0 then z6 - 0 else z6 - a1) = mm := by rw [qz6]; exact hm
        have hc : eb_M l yX10_upper (Cond.code yX10_upper cX10_upper 16 (some .long) :: wsL_law) 0 0 D 18 cy rL ad σ [.long a0, .long a1] (some (.long z6)) σ := by rw [qz6]; exact c_X10_upper l D cy ad σ a0 a1
        refine eb_callS (n := 2) X hw hl.1 (rest := []) hc (eb_goodS wi_34_18 wi_34_19 wi_1_5 wi_34_20) rfl (by decide +kernel) ⟨by decide, by decide⟩ rfl rfl (Nat.le_of_ble_eq_true rfl) dX10_product_84 ⟨by decide, by decide⟩ (st' := [.long z6]) rfl (fun H locs hw => ?_)
        refine lv_lload_n hx hb dX10_product_87 rfl (lv_at hl 1 rfl) ?_
        refine lv_lconst (v := 0) hx hb dX10_product_88 (by decide) ?_
        refine eb_lif_ge (tgt := 97) hx hb dX10_product_89 dX10_product_90 (by decide) (fun h7 => ?_) (fun h7 => ?_)
        · have hm := (if_pos h7).symm.trans hm
          refine lv_lconst (v := 0) hx hb dX10_product_97 (by decide) ?_
          refine lv_lsub hx hb dX10_product_98 ?_
          subst hm
          exact eb_lret X hw rfl rfl rfl dX10_product_99
        · have hm := (if_neg h7).symm.trans hm
          refine lv_lload_n hx hb dX10_product_93 rfl (lv_at hl 2 rfl) ?_
          refine lv_goto (tgt := 98) hx hb dX10_product_94 (by decide) ?_
          refine lv_lsub hx hb dX10_product_98 ?_
          subst hm
          exact eb_lret X hw rfl rfl rfl dX10_product_99
      · have hm := (if_neg h5).symm.trans hm
        by_cases h8 : (σ.1 0 41) = 3
        · have hm := (if_pos h8).symm.trans hm
          refine lv_tableIn (off := 96) (tgt := 100) hx hb dX10_product_4 (by rw [h8]; decide) (by rw [h8]; decide) (by rw [h8]; rfl) (by decide) ?_
          refine lv_lload_n hx hb dX10_product_100 rfl (lv_at hl 1 rfl) ?_
          refine lv_lload_n hx hb dX10_product_101 rfl (lv_at hl 2 rfl) ?_
          obtain ⟨z9, qz9⟩ : ∃ t : Int64, t = m_X10_upper a0 a1 := ⟨_, rfl⟩
          have hm : z9 = mm := by rw [qz9]; exact hm
          have hc : eb_M l yX10_upper (Cond.code yX10_upper cX10_upper 16 (some .long) :: wsL_law) 0 0 D 18 cy rL ad σ [.long a0, .long a1] (some (.long z9)) σ := by rw [qz9]; exact c_X10_upper l D cy ad σ a0 a1
          refine eb_callS (n := 2) X hw hl.1 (rest := []) hc (eb_goodS wi_34_18 wi_34_19 wi_1_5 wi_34_20) rfl (by decide +kernel) ⟨by decide, by decide⟩ rfl rfl (Nat.le_of_ble_eq_true rfl) dX10_product_102 ⟨by decide, by decide⟩ (st' := [.long z9]) rfl (fun H locs hw => ?_)
          subst hm
          exact eb_lret X hw rfl rfl rfl dX10_product_105
        · have hm := (if_neg h8).symm.trans hm
          by_cases h10 : (σ.1 0 41) = 4
          · have hm := (if_pos h10).symm.trans hm
            refine lv_tableIn (off := 102) (tgt := 106) hx hb dX10_product_4 (by rw [h10]; decide) (by rw [h10]; decide) (by rw [h10]; rfl) (by decide) ?_
            refine lv_lload_n hx hb dX10_product_106 rfl (lv_at hl 2 rfl) ?_
            refine lv_lconst (v := 0) hx hb dX10_product_107 (by decide) ?_
            refine eb_lif_ne (tgt := 118) hx hb dX10_product_108 dX10_product_109 (by decide) (fun h11 => ?_) (fun h11 => ?_)
            · have hm := (if_neg h11).symm.trans hm
              refine lv_lload_n hx hb dX10_product_118 rfl (lv_at hl 2 rfl) ?_
              refine lv_ldc2 hx hb hown (hts _ (List.mem_cons_of_mem _ wi_34_17)) dX10_product_119 ?_
              refine eb_lif_ne (tgt := 131) hx hb dX10_product_122 dX10_product_123 (by decide) (fun h12 => ?_) (fun h12 => ?_)
              · have hm := (if_neg h12).symm.trans hm
                refine lv_lload_n hx hb dX10_product_131 rfl (lv_at hl 1 rfl) ?_
                refine lv_lload_n hx hb dX10_product_132 rfl (lv_at hl 2 rfl) ?_
                refine lv_ldiv hx hb dX10_product_133 (by assumption) ?_
                subst hm
                exact eb_lret X hw rfl rfl rfl dX10_product_134
              · have hm := (if_pos h12).symm.trans hm
                refine lv_lload_n hx hb dX10_product_126 rfl (lv_at hl 1 rfl) ?_
                refine lv_lneg hx hb dX10_product_127 ?_
                refine lv_goto (tgt := 134) hx hb dX10_product_128 (by decide) ?_
                subst hm
                exact eb_lret X hw rfl rfl rfl dX10_product_134
            · have hm := (if_pos h11).symm.trans hm
              refine lv_ldc2 hx hb hown (hts _ (List.mem_cons_of_mem _ wi_34_17)) dX10_product_112 ?_
              refine lv_goto (tgt := 134) hx hb dX10_product_115 (by decide) ?_
              subst hm
              exact eb_lret X hw rfl rfl rfl dX10_product_134
          · have hm := (if_neg h10).symm.trans hm
            by_cases h13 : (σ.1 0 41) = 5
            · have hm := (if_pos h13).symm.trans hm
              refine lv_tableIn (off := 131) (tgt := 135) hx hb dX10_product_4 (by rw [h13]; decide) (by rw [h13]; decide) (by rw [h13]; rfl) (by decide) ?_
              refine lv_lload_n hx hb dX10_product_135 rfl (lv_at hl 2 rfl) ?_
              refine lv_lconst (v := 0) hx hb dX10_product_136 (by decide) ?_
              refine eb_lif_ne (tgt := 147) hx hb dX10_product_137 dX10_product_138 (by decide) (fun h14 => ?_) (fun h14 => ?_)
              · have hm := (if_neg h14).symm.trans hm
                refine lv_lload_n hx hb dX10_product_147 rfl (lv_at hl 1 rfl) ?_
                refine lv_lload_n hx hb dX10_product_148 rfl (lv_at hl 2 rfl) ?_
                obtain ⟨z15, qz15⟩ : ∃ t : Int64, t = m_X10_divided a0 a1 := ⟨_, rfl⟩
                have hm : z15 = mm := by rw [qz15]; exact hm
                have hc : eb_M l yX10_divided (Cond.code yX10_divided cX10_divided 6 (some .long) :: wsL_law) 1 23 D 18 cy rL ad σ [.long a0, .long a1] (some (.long z15)) σ := by rw [qz15]; exact c_X10_divided l D cy ad σ a0 a1 h14
                refine eb_callS (n := 2) X hw hl.1 (rest := []) hc (eb_goodS wi_34_21 wi_34_22 wi_1_5 wi_34_23) rfl (by decide +kernel) ⟨by decide, by decide⟩ rfl rfl (Nat.le_of_ble_eq_true rfl) dX10_product_149 ⟨by decide, by decide⟩ (st' := [.long z15]) rfl (fun H locs hw => ?_)
                subst hm
                exact eb_lret X hw rfl rfl rfl dX10_product_152
              · have hm := (if_pos h14).symm.trans hm
                refine lv_ldc2 hx hb hown (hts _ (List.mem_cons_of_mem _ wi_34_17)) dX10_product_141 ?_
                refine lv_goto (tgt := 152) hx hb dX10_product_144 (by decide) ?_
                subst hm
                exact eb_lret X hw rfl rfl rfl dX10_product_152
            · have hm := (if_neg h13).symm.trans hm
              by_cases h16 : (σ.1 0 41) = 6
              · have hm := (if_pos h16).symm.trans hm
                refine lv_tableIn (off := 149) (tgt := 153) hx hb dX10_product_4 (by rw [h16]; decide) (by rw [h16]; decide) (by rw [h16]; rfl) (by decide) ?_
                refine lv_lload_n hx hb dX10_product_153 rfl (lv_at hl 2 rfl) ?_
                refine lv_lconst (v := 0) hx hb dX10_product_154 (by decide) ?_
                refine eb_lif_ne (tgt := 163) hx hb dX10_product_155 dX10_product_156 (by decide) (fun h17 => ?_) (fun h17 => ?_)
                · have hm := (if_neg h17).symm.trans hm
                  refine lv_lload_n hx hb dX10_product_163 rfl (lv_at hl 2 rfl) ?_
                  refine lv_ldc2 hx hb hown (hts _ (List.mem_cons_of_mem _ wi_34_17)) dX10_product_164 ?_
                  refine eb_lif_ne (tgt := 175) hx hb dX10_product_167 dX10_product_168 (by decide) (fun h18 => ?_) (fun h18 => ?_)
                  · have hm := (if_neg h18).symm.trans hm
                    refine lv_lload_n hx hb dX10_product_175 rfl (lv_at hl 1 rfl) ?_
                    refine lv_lload_n hx hb dX10_product_176 rfl (lv_at hl 2 rfl) ?_
                    refine lv_lrem hx hb dX10_product_177 (by assumption) ?_
                    subst hm
                    exact eb_lret X hw rfl rfl rfl dX10_product_178
                  · have hm := (if_pos h18).symm.trans hm
                    refine lv_lconst (v := 0) hx hb dX10_product_171 (by decide) ?_
                    refine lv_goto (tgt := 178) hx hb dX10_product_172 (by decide) ?_
                    subst hm
                    exact eb_lret X hw rfl rfl rfl dX10_product_178
                · have hm := (if_pos h17).symm.trans hm
                  refine lv_lload_n hx hb dX10_product_159 rfl (lv_at hl 1 rfl) ?_
                  refine lv_goto (tgt := 178) hx hb dX10_product_160 (by decide) ?_
                  subst hm
                  exact eb_lret X hw rfl rfl rfl dX10_product_178
              · have hm := (if_neg h16).symm.trans hm
                refine lv_tableOut (tgt := 179) hx hb dX10_product_4 (by have qh1 := lv_neT h1 (a := 0) (by decide); have qh2 := lv_neT h2 (a := 1) (by decide); have qh5 := lv_neT h5 (a := 2) (by decide); have qh8 := lv_neT h8 (a := 3) (by decide); have qh10 := lv_neT h10 (a := 4) (by decide); have qh13 := lv_neT h13 (a := 5) (by decide); have qh16 := lv_neT h16 (a := 6) (by decide); omega) (by decide) ?_
                refine lv_lload_n hx hb dX10_product_179 rfl (lv_at hl 2 rfl) ?_
                refine lv_lconst (v := 0) hx hb dX10_product_180 (by decide) ?_
                refine eb_lif_ne (tgt := 189) hx hb dX10_product_181 dX10_product_182 (by decide) (fun h19 => ?_) (fun h19 => ?_)
                · have hm := (if_neg h19).symm.trans hm
                  refine lv_lload_n hx hb dX10_product_189 rfl (lv_at hl 1 rfl) ?_
                  refine lv_lload_n hx hb dX10_product_190 rfl (lv_at hl 1 rfl) ?_
                  refine lv_lload_n hx hb dX10_product_191 rfl (lv_at hl 2 rfl) ?_
                  obtain ⟨z20, qz20⟩ : ∃ t : Int64, t = m_X10_divided a0 a1 := ⟨_, rfl⟩
                  have hm : a0 - (z20 * a1) = mm := by rw [qz20]; exact hm
                  have hc : eb_M l yX10_divided (Cond.code yX10_divided cX10_divided 6 (some .long) :: wsL_law) 1 23 D 18 cy rL ad σ [.long a0, .long a1] (some (.long z20)) σ := by rw [qz20]; exact c_X10_divided l D cy ad σ a0 a1 h19
                  refine eb_callS (n := 2) X hw hl.1 (rest := [.long a0]) hc (eb_goodS wi_34_21 wi_34_22 wi_1_5 wi_34_23) rfl (by decide +kernel) ⟨by decide, by decide⟩ rfl rfl (Nat.le_of_ble_eq_true rfl) dX10_product_192 ⟨by decide, by decide⟩ (st' := [.long z20, .long a0]) rfl (fun H locs hw => ?_)
                  refine lv_lload_n hx hb dX10_product_195 rfl (lv_at hl 2 rfl) ?_
                  refine lv_lmul hx hb dX10_product_196 ?_
                  refine lv_lsub hx hb dX10_product_197 ?_
                  subst hm
                  exact eb_lret X hw rfl rfl rfl dX10_product_198
                · have hm := (if_pos h19).symm.trans hm
                  refine lv_lload_n hx hb dX10_product_185 rfl (lv_at hl 1 rfl) ?_
                  refine lv_goto (tgt := 198) hx hb dX10_product_186 (by decide) ?_
                  subst hm
                  exact eb_lret X hw rfl rfl rfl dX10_product_198

set_option maxHeartbeats 4000000 in
set_option maxRecDepth 100000 in
theorem c_X10_x (l : Launch) (D : va_G) (cy : Nat → ClassId) (ad : Nat → Nat) (σ : eb_St) (a0 : Int32) (hj_ : rJ σ) (h0_ : vp_in a0 32) : eb_M l yX10_x (Cond.code yX10_x cX10_x 2 (some .long) :: wsL_law) 1 20 D 18 cy rL ad σ [.ref (ad 0), .int a0] (some (.long (m_X10_x σ a0))) σ := by
  refine eb_start (own := RX10) (by decide) rfl rfl (Nat.le_of_ble_eq_true rfl) ?_
  intro p e s m args below meth c A ls X hw hl
  have hl : lv_has ls 2 [(0, .ref (ad 0)), (1, .int a0)] := hl
  have hx := X.1.1
  have hb := X.1.2.1
  have hown := X.1.2.2.2.1
  have hts := X.1.2.2.2.2
  generalize hm : m_X10_x σ a0 = mm
  have hm : (fun (z1 : Int32) => σ.2 2 ((32 * z1) + a0).toNatClampNeg) (m_X10_set σ) = mm := hm
  refine lv_aload_n hx hb dX10_x_0 rfl (lv_at hl 0 rfl) ?_
  refine eb_get (T := TX10) X hw 0 2 (by decide) ⟨rfl, rfl, rfl⟩ (by decide) (fun _ h => List.mem_cons_of_mem _ (inlX10 _ h)) (List.mem_cons_of_mem _ wi_5_9) (v := .ref (ad 2)) rfl dX10_x_1 ?_
  refine lv_bipush (v := 32) hx hb dX10_x_4 (by decide) ?_
  refine lv_aload_n hx hb dX10_x_6 rfl (lv_at hl 0 rfl) ?_
  obtain ⟨z1, qz1⟩ : ∃ t : Int32, t = m_X10_set σ := ⟨_, rfl⟩
  have hm : σ.2 2 ((32 * z1) + a0).toNatClampNeg = mm := by rw [qz1]; exact hm
  have hc : eb_M l yX10_set (Cond.code yX10_set cX10_set 1 (some .int) :: wsL_law) 0 0 D 18 cy rL ad σ [.ref (ad 0)] (some (.int z1)) σ := by rw [qz1]; exact c_X10_set l D cy ad σ 
  refine eb_callV (n := 0) (as := []) (rest := [.int 32, .ref (ad 2)]) X hw hl.1 0 hc (by decide) ⟨rfl, rfl, rfl⟩ (eb_goodV wi_30_16 wi_30_17 wi_30_18 wi_1_5 wi_30_19) rfl (by decide +kernel) ⟨by decide, by decide⟩ rfl rfl (Nat.le_of_ble_eq_true rfl) dX10_x_7 ⟨by decide, by decide⟩ (st' := [.int z1, .int 32, .ref (ad 2)]) rfl (fun H locs hw => ?_)
  refine lv_imul hx hb dX10_x_10 ?_
  refine lv_iload_n hx hb dX10_x_11 rfl (lv_at hl 1 rfl) ?_
  refine lv_iadd hx hb dX10_x_12 ?_
  refine eb_lald (n := 224) X hw 2 (by decide) rfl rfl (eb_in_reg (by rw [qz1]; exact l_X10_set hj_) h0_) dX10_x_13 ?_
  subst hm
  exact eb_lret X hw rfl rfl rfl dX10_x_14

theorem J_X10_give {σ : eb_St} {a0 : Int32} {a1 : Int64} {mm : eb_St} (hm : m_X10_give σ a0 a1 = mm) (hj_ : rJ σ) (h0_ : vp_in a0 32) : rJ mm := by
  have hm : (if a0 = 0 then σ else (fun (z2 : Int32) => eb_pJ σ 2 (((32 * z2) + a0).toNatClampNeg) a1) (m_X10_set σ)) = mm := hm
  refine eb_em (c := a0 = 0) (fun h1 => ?_) (fun h1 => ?_)
  · have hm := (if_pos h1).symm.trans hm
    subst hm
    exact hj_
  · have hm := (if_neg h1).symm.trans hm
    obtain ⟨z2, qz2⟩ : ∃ t : Int32, t = m_X10_set σ := ⟨_, rfl⟩
    have hm : eb_pJ σ 2 (((32 * z2) + a0).toNatClampNeg) a1 = mm := by rw [qz2]; exact hm
    subst hm
    exact hj_
set_option maxHeartbeats 4000000 in
set_option maxRecDepth 100000 in
theorem c_X10_give (l : Launch) (D : va_G) (cy : Nat → ClassId) (ad : Nat → Nat) (σ : eb_St) (a0 : Int32) (a1 : Int64) (hj_ : rJ σ) (h0_ : vp_in a0 32) : eb_M l yX10_give (Cond.code yX10_give cX10_give 4 none :: wsL_law) 1 20 D 18 cy rL ad σ [.ref (ad 0), .int a0, .long a1] (none) (m_X10_give σ a0 a1) := by
  refine eb_start (own := RX10) (by decide) rfl rfl (Nat.le_of_ble_eq_true rfl) ?_
  intro p e s m args below meth c A ls X hw hl
  have hl : lv_has ls 4 [(0, .ref (ad 0)), (1, .int a0), (2, .long a1)] := hl
  have hx := X.1.1
  have hb := X.1.2.1
  have hown := X.1.2.2.2.1
  have hts := X.1.2.2.2.2
  generalize hm : m_X10_give σ a0 a1 = mm
  have hm : (if a0 = 0 then σ else (fun (z2 : Int32) => eb_pJ σ 2 (((32 * z2) + a0).toNatClampNeg) a1) (m_X10_set σ)) = mm := hm
  refine lv_iload_n hx hb dX10_give_0 rfl (lv_at hl 1 rfl) ?_
  refine lv_if_eq (tgt := 19) hx hb dX10_give_1 (by decide) (fun h1 => ?_) (fun h1 => ?_)
  · have hm := (if_pos h1).symm.trans hm
    subst hm
    exact eb_vret X hw rfl rfl dX10_give_19
  · have hm := (if_neg h1).symm.trans hm
    refine lv_aload_n hx hb dX10_give_4 rfl (lv_at hl 0 rfl) ?_
    refine eb_get (T := TX10) X hw 0 2 (by decide) ⟨rfl, rfl, rfl⟩ (by decide) (fun _ h => List.mem_cons_of_mem _ (inlX10 _ h)) (List.mem_cons_of_mem _ wi_5_9) (v := .ref (ad 2)) rfl dX10_give_5 ?_
    refine lv_bipush (v := 32) hx hb dX10_give_8 (by decide) ?_
    refine lv_aload_n hx hb dX10_give_10 rfl (lv_at hl 0 rfl) ?_
    obtain ⟨z2, qz2⟩ : ∃ t : Int32, t = m_X10_set σ := ⟨_, rfl⟩
    have hm : eb_pJ σ 2 (((32 * z2) + a0).toNatClampNeg) a1 = mm := by rw [qz2]; exact hm
    have hc : eb_M l yX10_set (Cond.code yX10_set cX10_set 1 (some .int) :: wsL_law) 0 0 D 18 cy rL ad σ [.ref (ad 0)] (some (.int z2)) σ := by rw [qz2]; exact c_X10_set l D cy ad σ 
    refine eb_callV (n := 0) (as := []) (rest := [.int 32, .ref (ad 2)]) X hw hl.1 0 hc (by decide) ⟨rfl, rfl, rfl⟩ (eb_goodV wi_30_16 wi_30_17 wi_30_18 wi_1_5 wi_30_19) rfl (by decide +kernel) ⟨by decide, by decide⟩ rfl rfl (Nat.le_of_ble_eq_true rfl) dX10_give_11 ⟨by decide, by decide⟩ (st' := [.int z2, .int 32, .ref (ad 2)]) rfl (fun H locs hw => ?_)
    refine lv_imul hx hb dX10_give_14 ?_
    refine lv_iload_n hx hb dX10_give_15 rfl (lv_at hl 1 rfl) ?_
    refine lv_iadd hx hb dX10_give_16 ?_
    refine lv_lload_n hx hb dX10_give_17 rfl (lv_at hl 2 rfl) ?_
    refine eb_last (n := 224) X hw 2 (by decide) rfl rfl (eb_in_reg (by rw [qz2]; exact l_X10_set hj_) h0_) dX10_give_18 (fun H locs hw => ?_)
    subst hm
    exact eb_vret X hw rfl rfl dX10_give_19

theorem J_X10_goesOn {σ : eb_St}  {mm : Int32 × eb_St} (hm : m_X10_goesOn σ = mm) (hj_ : rJ σ) : rJ mm.2 := by
  have hm : (fun (z1 : Int32) => ((-1), eb_pJ σ 3 z1.toNatClampNeg ((σ.2 3 z1.toNatClampNeg) + 4))) (m_X10_set σ) = mm := hm
  obtain ⟨z1, qz1⟩ : ∃ t : Int32, t = m_X10_set σ := ⟨_, rfl⟩
  have hm : ((-1), eb_pJ σ 3 z1.toNatClampNeg ((σ.2 3 z1.toNatClampNeg) + 4)) = mm := by rw [qz1]; exact hm
  subst hm
  exact hj_
set_option maxHeartbeats 4000000 in
set_option maxRecDepth 100000 in
theorem c_X10_goesOn (l : Launch) (D : va_G) (cy : Nat → ClassId) (ad : Nat → Nat) (σ : eb_St)  (hj_ : rJ σ) : eb_M l yX10_goesOn (Cond.code yX10_goesOn cX10_goesOn 1 (some .int) :: wsL_law) 1 20 D 18 cy rL ad σ [.ref (ad 0)] (some (.int (m_X10_goesOn σ).1)) ((m_X10_goesOn σ).2) := by
  refine eb_start (own := RX10) (by decide) rfl rfl (Nat.le_of_ble_eq_true rfl) ?_
  intro p e s m args below meth c A ls X hw hl
  have hl : lv_has ls 1 [(0, .ref (ad 0))] := hl
  have hx := X.1.1
  have hb := X.1.2.1
  have hown := X.1.2.2.2.1
  have hts := X.1.2.2.2.2
  generalize hm : m_X10_goesOn σ = mm
  have hm : (fun (z1 : Int32) => ((-1), eb_pJ σ 3 z1.toNatClampNeg ((σ.2 3 z1.toNatClampNeg) + 4))) (m_X10_set σ) = mm := hm
  refine lv_aload_n hx hb dX10_goesOn_0 rfl (lv_at hl 0 rfl) ?_
  refine eb_get (T := TX10) X hw 0 3 (by decide) ⟨rfl, rfl, rfl⟩ (by decide) (fun _ h => List.mem_cons_of_mem _ (inlX10 _ h)) (List.mem_cons_of_mem _ wi_5_10) (v := .ref (ad 3)) rfl dX10_goesOn_1 ?_
  refine lv_aload_n hx hb dX10_goesOn_4 rfl (lv_at hl 0 rfl) ?_
  obtain ⟨z1, qz1⟩ : ∃ t : Int32, t = m_X10_set σ := ⟨_, rfl⟩
  have hm : ((-1), eb_pJ σ 3 z1.toNatClampNeg ((σ.2 3 z1.toNatClampNeg) + 4)) = mm := by rw [qz1]; exact hm
  have hc : eb_M l yX10_set (Cond.code yX10_set cX10_set 1 (some .int) :: wsL_law) 0 0 D 18 cy rL ad σ [.ref (ad 0)] (some (.int z1)) σ := by rw [qz1]; exact c_X10_set l D cy ad σ 
  refine eb_callV (n := 0) (as := []) (rest := [.ref (ad 3)]) X hw hl.1 0 hc (by decide) ⟨rfl, rfl, rfl⟩ (eb_goodV wi_30_16 wi_30_17 wi_30_18 wi_1_5 wi_30_19) rfl (by decide +kernel) ⟨by decide, by decide⟩ rfl rfl (Nat.le_of_ble_eq_true rfl) dX10_goesOn_5 ⟨by decide, by decide⟩ (st' := [.int z1, .ref (ad 3)]) rfl (fun H locs hw => ?_)
  refine lv_dup2_11 hx hb dX10_goesOn_8 rfl rfl ?_
  refine eb_lald (n := 7) X hw 3 (by decide) rfl rfl (by rw [qz1]; exact l_X10_set hj_) dX10_goesOn_9 ?_
  refine lv_ldc2 hx hb hown (hts _ (List.mem_cons_of_mem _ wi_30_14)) dX10_goesOn_10 ?_
  refine lv_ladd hx hb dX10_goesOn_13 ?_
  refine eb_last (n := 7) X hw 3 (by decide) rfl rfl (by rw [qz1]; exact l_X10_set hj_) dX10_goesOn_14 (fun H locs hw => ?_)
  refine lv_iconst (v := (-1)) hx hb dX10_goesOn_15 (by decide) ?_
  subst hm
  exact eb_iret X hw rfl rfl rfl dX10_goesOn_16

theorem J_X10_sets {σ : eb_St} {a0 : Int64} {mm : Int32 × eb_St} (hm : m_X10_sets σ a0 = mm) (hj_ : rJ σ) : rJ mm.2 := by
  have hm : (fun (z1 : eb_St) => (fun (z2 : Int32 × eb_St) => (z2.1, z2.2)) (m_X10_goesOn z1)) (m_X10_give σ (σ.1 0 38) a0) = mm := hm
  obtain ⟨z1, qz1⟩ : ∃ t : eb_St, t = m_X10_give σ (σ.1 0 38) a0 := ⟨_, rfl⟩
  have hm : (fun (z2 : Int32 × eb_St) => (z2.1, z2.2)) (m_X10_goesOn z1) = mm := by rw [qz1]; exact hm
  have jz1 : rJ z1 := J_X10_give qz1.symm hj_ hj_.2.2.1
  obtain ⟨z2, qz2⟩ : ∃ t : Int32 × eb_St, t = m_X10_goesOn z1 := ⟨_, rfl⟩
  have hm : (z2.1, z2.2) = mm := by rw [qz2]; exact hm
  have jz2 : rJ z2.2 := J_X10_goesOn qz2.symm jz1
  subst hm
  exact jz2
set_option maxHeartbeats 4000000 in
set_option maxRecDepth 100000 in
theorem c_X10_sets (l : Launch) (D : va_G) (cy : Nat → ClassId) (ad : Nat → Nat) (σ : eb_St) (a0 : Int64) (hj_ : rJ σ) : eb_M l yX10_sets (Cond.code yX10_sets cX10_sets 3 (some .int) :: wsL_law) 2 43 D 18 cy rL ad σ [.ref (ad 0), .long a0] (some (.int (m_X10_sets σ a0).1)) ((m_X10_sets σ a0).2) := by
  refine eb_start (own := RX10) (by decide) rfl rfl (Nat.le_of_ble_eq_true rfl) ?_
  intro p e s m args below meth c A ls X hw hl
  have hl : lv_has ls 3 [(0, .ref (ad 0)), (1, .long a0)] := hl
  have hx := X.1.1
  have hb := X.1.2.1
  have hown := X.1.2.2.2.1
  have hts := X.1.2.2.2.2
  generalize hm : m_X10_sets σ a0 = mm
  have hm : (fun (z1 : eb_St) => (fun (z2 : Int32 × eb_St) => (z2.1, z2.2)) (m_X10_goesOn z1)) (m_X10_give σ (σ.1 0 38) a0) = mm := hm
  refine lv_aload_n hx hb dX10_sets_0 rfl (lv_at hl 0 rfl) ?_
  refine lv_aload_n hx hb dX10_sets_1 rfl (lv_at hl 0 rfl) ?_
  refine eb_get (T := TX10) X hw 0 38 (by decide) ⟨rfl, rfl, rfl⟩ (by decide) (fun _ h => List.mem_cons_of_mem _ (inlX10 _ h)) (List.mem_cons_of_mem _ wi_30_9) (v := .int (σ.1 0 38)) rfl dX10_sets_2 ?_
  refine lv_lload_n hx hb dX10_sets_5 rfl (lv_at hl 1 rfl) ?_
  obtain ⟨z1, qz1⟩ : ∃ t : eb_St, t = m_X10_give σ (σ.1 0 38) a0 := ⟨_, rfl⟩
  have hm : (fun (z2 : Int32 × eb_St) => (z2.1, z2.2)) (m_X10_goesOn z1) = mm := by rw [qz1]; exact hm
  have jz1 : rJ z1 := J_X10_give qz1.symm hj_ hj_.2.2.1
  have hc : eb_M l yX10_give (Cond.code yX10_give cX10_give 4 none :: wsL_law) 1 20 D 18 cy rL ad σ [.ref (ad 0), .int (σ.1 0 38), .long a0] (none) z1 := by rw [qz1]; exact c_X10_give l D cy ad σ (σ.1 0 38) a0 hj_ hj_.2.2.1
  refine eb_callV (n := 2) (as := [.int (σ.1 0 38), .long a0]) (rest := []) X hw hl.1 0 hc (by decide) ⟨rfl, rfl, rfl⟩ (eb_goodV wi_32_6 wi_32_7 wi_32_8 wi_1_5 wi_32_9) rfl (by decide +kernel) ⟨by decide, by decide⟩ rfl rfl (Nat.le_of_ble_eq_true rfl) dX10_sets_6 ⟨by decide, by decide⟩ (st' := []) rfl (fun H locs hw => ?_)
  refine lv_aload_n hx hb dX10_sets_9 rfl (lv_at hl 0 rfl) ?_
  obtain ⟨z2, qz2⟩ : ∃ t : Int32 × eb_St, t = m_X10_goesOn z1 := ⟨_, rfl⟩
  have hm : (z2.1, z2.2) = mm := by rw [qz2]; exact hm
  have jz2 : rJ z2.2 := J_X10_goesOn qz2.symm jz1
  have hc : eb_M l yX10_goesOn (Cond.code yX10_goesOn cX10_goesOn 1 (some .int) :: wsL_law) 1 20 D 18 cy rL ad z1 [.ref (ad 0)] (some (.int z2.1)) z2.2 := by rw [qz2]; exact c_X10_goesOn l D cy ad z1 jz1
  refine eb_callV (n := 0) (as := []) (rest := []) X hw hl.1 0 hc (by decide) ⟨rfl, rfl, rfl⟩ (eb_goodV wi_32_10 wi_32_11 wi_32_12 wi_1_5 wi_32_13) rfl (by decide +kernel) ⟨by decide, by decide⟩ rfl rfl (Nat.le_of_ble_eq_true rfl) dX10_sets_10 ⟨by decide, by decide⟩ (st' := [.int z2.1]) rfl (fun H locs hw => ?_)
  subst hm
  exact eb_iret X hw rfl rfl rfl dX10_sets_13

theorem J_X10_jumps {σ : eb_St} {a0 : Int64} {a1 : Int64} {mm : Int32 × eb_St} (hm : m_X10_jumps σ a0 a1 = mm) (hj_ : rJ σ) : rJ mm.2 := by
  have hm : (if (a0 &&& 3) = 0 then (fun (z2 : eb_St) => (fun (z3 : Int32) => ((-1), eb_pJ z2 3 z3.toNatClampNeg a0)) (m_X10_set z2)) (m_X10_give σ (σ.1 0 38) a1) else (fun (z4 : Int32 × eb_St) => (z4.1, z4.2)) (m_X10_fault σ 0 a0)) = mm := hm
  refine eb_em (c := (a0 &&& 3) = 0) (fun h1 => ?_) (fun h1 => ?_)
  · have hm := (if_pos h1).symm.trans hm
    obtain ⟨z2, qz2⟩ : ∃ t : eb_St, t = m_X10_give σ (σ.1 0 38) a1 := ⟨_, rfl⟩
    have hm : (fun (z3 : Int32) => ((-1), eb_pJ z2 3 z3.toNatClampNeg a0)) (m_X10_set z2) = mm := by rw [qz2]; exact hm
    have jz2 : rJ z2 := J_X10_give qz2.symm hj_ hj_.2.2.1
    obtain ⟨z3, qz3⟩ : ∃ t : Int32, t = m_X10_set z2 := ⟨_, rfl⟩
    have hm : ((-1), eb_pJ z2 3 z3.toNatClampNeg a0) = mm := by rw [qz3]; exact hm
    subst hm
    exact jz2
  · have hm := (if_neg h1).symm.trans hm
    obtain ⟨z4, qz4⟩ : ∃ t : Int32 × eb_St, t = m_X10_fault σ 0 a0 := ⟨_, rfl⟩
    have hm : (z4.1, z4.2) = mm := by rw [qz4]; exact hm
    have jz4 : rJ z4.2 := J_X10_fault qz4.symm hj_
    subst hm
    exact jz4
set_option maxHeartbeats 4000000 in
set_option maxRecDepth 100000 in
theorem c_X10_jumps (l : Launch) (D : va_G) (cy : Nat → ClassId) (ad : Nat → Nat) (σ : eb_St) (a0 : Int64) (a1 : Int64) (hj_ : rJ σ) : eb_M l yX10_jumps (Cond.code yX10_jumps cX10_jumps 5 (some .int) :: wsL_law) 2 43 D 18 cy rL ad σ [.ref (ad 0), .long a0, .long a1] (some (.int (m_X10_jumps σ a0 a1).1)) ((m_X10_jumps σ a0 a1).2) := by
  refine eb_start (own := RX10) (by decide) rfl rfl (Nat.le_of_ble_eq_true rfl) ?_
  intro p e s m args below meth c A ls X hw hl
  have hl : lv_has ls 5 [(0, .ref (ad 0)), (1, .long a0), (3, .long a1)] := hl
  have hx := X.1.1
  have hb := X.1.2.1
  have hown := X.1.2.2.2.1
  have hts := X.1.2.2.2.2
  generalize hm : m_X10_jumps σ a0 a1 = mm
  have hm : (if (a0 &&& 3) = 0 then (fun (z2 : eb_St) => (fun (z3 : Int32) => ((-1), eb_pJ z2 3 z3.toNatClampNeg a0)) (m_X10_set z2)) (m_X10_give σ (σ.1 0 38) a1) else (fun (z4 : Int32 × eb_St) => (z4.1, z4.2)) (m_X10_fault σ 0 a0)) = mm := hm
  refine lv_lload_n hx hb dX10_jumps_0 rfl (lv_at hl 1 rfl) ?_
  refine lv_ldc2 hx hb hown (hts _ (List.mem_cons_of_mem _ wi_30_7)) dX10_jumps_1 ?_
  refine lv_land hx hb dX10_jumps_4 ?_
  refine lv_lconst (v := 0) hx hb dX10_jumps_5 (by decide) ?_
  refine eb_lif_eq (tgt := 17) hx hb dX10_jumps_6 dX10_jumps_7 (by decide) (fun h1 => ?_) (fun h1 => ?_)
  · have hm := (if_pos h1).symm.trans hm
    refine lv_aload_n hx hb dX10_jumps_17 rfl (lv_at hl 0 rfl) ?_
    refine lv_aload_n hx hb dX10_jumps_18 rfl (lv_at hl 0 rfl) ?_
    refine eb_get (T := TX10) X hw 0 38 (by decide) ⟨rfl, rfl, rfl⟩ (by decide) (fun _ h => List.mem_cons_of_mem _ (inlX10 _ h)) (List.mem_cons_of_mem _ wi_30_9) (v := .int (σ.1 0 38)) rfl dX10_jumps_19 ?_
    refine lv_lload_n hx hb dX10_jumps_22 rfl (lv_at hl 2 rfl) ?_
    obtain ⟨z2, qz2⟩ : ∃ t : eb_St, t = m_X10_give σ (σ.1 0 38) a1 := ⟨_, rfl⟩
    have hm : (fun (z3 : Int32) => ((-1), eb_pJ z2 3 z3.toNatClampNeg a0)) (m_X10_set z2) = mm := by rw [qz2]; exact hm
    have jz2 : rJ z2 := J_X10_give qz2.symm hj_ hj_.2.2.1
    have hc : eb_M l yX10_give (Cond.code yX10_give cX10_give 4 none :: wsL_law) 1 20 D 18 cy rL ad σ [.ref (ad 0), .int (σ.1 0 38), .long a1] (none) z2 := by rw [qz2]; exact c_X10_give l D cy ad σ (σ.1 0 38) a1 hj_ hj_.2.2.1
    refine eb_callV (n := 2) (as := [.int (σ.1 0 38), .long a1]) (rest := []) X hw hl.1 0 hc (by decide) ⟨rfl, rfl, rfl⟩ (eb_goodV wi_32_6 wi_32_7 wi_32_8 wi_1_5 wi_32_9) rfl (by decide +kernel) ⟨by decide, by decide⟩ rfl rfl (Nat.le_of_ble_eq_true rfl) dX10_jumps_23 ⟨by decide, by decide⟩ (st' := []) rfl (fun H locs hw => ?_)
    refine lv_aload_n hx hb dX10_jumps_26 rfl (lv_at hl 0 rfl) ?_
    refine eb_get (T := TX10) X hw 0 3 (by decide) ⟨rfl, rfl, rfl⟩ (by decide) (fun _ h => List.mem_cons_of_mem _ (inlX10 _ h)) (List.mem_cons_of_mem _ wi_5_10) (v := .ref (ad 3)) rfl dX10_jumps_27 ?_
    refine lv_aload_n hx hb dX10_jumps_30 rfl (lv_at hl 0 rfl) ?_
    obtain ⟨z3, qz3⟩ : ∃ t : Int32, t = m_X10_set z2 := ⟨_, rfl⟩
    have hm : ((-1), eb_pJ z2 3 z3.toNatClampNeg a0) = mm := by rw [qz3]; exact hm
    have hc : eb_M l yX10_set (Cond.code yX10_set cX10_set 1 (some .int) :: wsL_law) 0 0 D 18 cy rL ad z2 [.ref (ad 0)] (some (.int z3)) z2 := by rw [qz3]; exact c_X10_set l D cy ad z2 
    refine eb_callV (n := 0) (as := []) (rest := [.ref (ad 3)]) X hw hl.1 0 hc (by decide) ⟨rfl, rfl, rfl⟩ (eb_goodV wi_30_16 wi_30_17 wi_30_18 wi_1_5 wi_30_19) rfl (by decide +kernel) ⟨by decide, by decide⟩ rfl rfl (Nat.le_of_ble_eq_true rfl) dX10_jumps_31 ⟨by decide, by decide⟩ (st' := [.int z3, .ref (ad 3)]) rfl (fun H locs hw => ?_)
    refine lv_lload_n hx hb dX10_jumps_34 rfl (lv_at hl 1 rfl) ?_
    refine eb_last (n := 7) X hw 3 (by decide) rfl rfl (by rw [qz3]; exact l_X10_set jz2) dX10_jumps_35 (fun H locs hw => ?_)
    refine lv_iconst (v := (-1)) hx hb dX10_jumps_36 (by decide) ?_
    subst hm
    exact eb_iret X hw rfl rfl rfl dX10_jumps_37
  · have hm := (if_neg h1).symm.trans hm
    refine lv_aload_n hx hb dX10_jumps_10 rfl (lv_at hl 0 rfl) ?_
    refine lv_iconst (v := 0) hx hb dX10_jumps_11 (by decide) ?_
    refine lv_lload_n hx hb dX10_jumps_12 rfl (lv_at hl 1 rfl) ?_
    obtain ⟨z4, qz4⟩ : ∃ t : Int32 × eb_St, t = m_X10_fault σ 0 a0 := ⟨_, rfl⟩
    have hm : (z4.1, z4.2) = mm := by rw [qz4]; exact hm
    have jz4 : rJ z4.2 := J_X10_fault qz4.symm hj_
    have hc : eb_M l yX10_fault (Cond.code yX10_fault cX10_fault 4 (some .int) :: wsL_law) 0 0 D 18 cy rL ad σ [.ref (ad 0), .int 0, .long a0] (some (.int z4.1)) z4.2 := by rw [qz4]; exact c_X10_fault l D cy ad σ 0 a0 hj_
    refine eb_callV (n := 2) (as := [.int 0, .long a0]) (rest := []) X hw hl.1 0 hc (by decide) ⟨rfl, rfl, rfl⟩ (eb_goodV wi_30_20 wi_30_21 wi_30_22 wi_1_5 wi_30_23) rfl (by decide +kernel) ⟨by decide, by decide⟩ rfl rfl (Nat.le_of_ble_eq_true rfl) dX10_jumps_13 ⟨by decide, by decide⟩ (st' := [.int z4.1]) rfl (fun H locs hw => ?_)
    subst hm
    exact eb_iret X hw rfl rfl rfl dX10_jumps_16

theorem J_X10_clearMemory_2 : ∀ (n : Nat) (σ : eb_St) (v1 : Int32) (v2 : Int32) {mm : eb_St} (_ : (m_X10_clearMemory_2  n σ v1 v2) = mm) (hj_ : rJ σ) (i0_ : vp_in v1 6) (i1_ : 0 ≤ v2.toInt) (hn : ((σ.1 8 v1.toNatClampNeg).toInt - v2.toInt).toNat < n), rJ mm := by
  intro n
  induction n with
  | zero => intro σ v1 v2 mm hm hj_ i0_ i1_ hn; exact absurd hn (Nat.not_lt_zero _)
  | succ n ih =>
    intro σ v1 v2 mm hm hj_ i0_ i1_ hn
    have hm : (if (σ.1 8 v1.toNatClampNeg) ≤ v2 then σ else (fun (x2 : Int32) => m_X10_clearMemory_2  n (eb_pI σ 1 (((σ.1 7 v1.toNatClampNeg) + v2).toNatClampNeg) (vp_nar .byte 0)) v1 x2) (v2 + 1)) = mm := hm
    refine eb_em (c := (σ.1 8 v1.toNatClampNeg) ≤ v2) (fun h1 => ?_) (fun h1 => ?_)
    · have hm := (if_pos h1).symm.trans hm
      subst hm
      exact hj_
    · have hm := (if_neg h1).symm.trans hm
      obtain ⟨x2, ex2⟩ : ∃ z : Int32, z = v2 + 1 := ⟨_, rfl⟩
      have hm : m_X10_clearMemory_2  n (eb_pI σ 1 (((σ.1 7 v1.toNatClampNeg) + v2).toNatClampNeg) (vp_nar .byte 0)) v1 x2 = mm := by rw [ex2]; exact hm
      exact ih (eb_pI σ 1 (((σ.1 7 v1.toNatClampNeg) + v2).toNatClampNeg) (vp_nar .byte 0)) v1 x2 hm hj_ i0_ (eb_up i1_ (eb_nle h1) ex2 hn).1 (eb_up i1_ (eb_nle h1) ex2 hn).2
theorem J_X10_clearMemory {σ : eb_St} {a0 : Int32} {mm : eb_St} (hm : m_X10_clearMemory σ a0 = mm) (hj_ : rJ σ) (h0_ : vp_in a0 6) : rJ mm := by
  have hm : m_X10_clearMemory_2  (((σ.1 8 a0.toNatClampNeg).toInt - (0 : Int32).toInt).toNat + 1) σ a0 0 = mm := hm
  exact J_X10_clearMemory_2 (((σ.1 8 a0.toNatClampNeg).toInt - (0 : Int32).toInt).toNat + 1) σ a0 0 hm hj_ h0_ (by decide) (Nat.lt_succ_self _)
set_option maxHeartbeats 4000000 in
set_option maxRecDepth 100000 in
theorem k_X10_clearMemory_2 {p : Program} {l : Launch} {e : Env} {s : State} {m : MethodId} {args : Array Value} {below : List Frame} {meth : Method} {c : Code} {A : Nat → Prop} {D : va_G} {cy : Nat → ClassId} {ad : Nat → Nat} (X : eb_X p s m args meth c cX10_clearMemory 3 RX10 (Cond.code yX10_clearMemory cX10_clearMemory 3 none :: wsL_law) none D cy A)   : ∀ (n : Nat) (σ : eb_St) (v1 : Int32) (v2 : Int32) (hj_ : rJ σ) (i0_ : vp_in v1 6) (i1_ : 0 ≤ v2.toInt) (hn : ((σ.1 8 v1.toNatClampNeg).toInt - v2.toInt).toNat < n) {H : Heap} {locs : List Loc} {ls : Array Slot} {mm : eb_St} (_ : (m_X10_clearMemory_2  n σ v1 v2) = mm) (hw : eb_H D 18 cy rL ad A s.heap σ H locs) (hl : lv_has ls 3 [(0, .ref (ad 0)), (1, .int v1), (2, .int v2)]), W p l e ({ frames := 0, cells := 0, slots := 0, locals := 0 } : Room) s m args below meth c H locs 0 0 (MQ below (eb_Q D 18 cy rL ad A (none) mm) args s 0 0 A) (F0 m 2 ls []) := by
  have hx := X.1.1
  have hb := X.1.2.1
  have hown := X.1.2.2.2.1
  have hts := X.1.2.2.2.2
  intro n
  induction n with
  | zero => intro σ v1 v2 hj_ i0_ i1_ hn; exact absurd hn (Nat.not_lt_zero _)
  | succ n ih =>
    intro σ v1 v2 hj_ i0_ i1_ hn H locs ls mm hm hw hl
    have hm : (if (σ.1 8 v1.toNatClampNeg) ≤ v2 then σ else (fun (x2 : Int32) => m_X10_clearMemory_2  n (eb_pI σ 1 (((σ.1 7 v1.toNatClampNeg) + v2).toNatClampNeg) (vp_nar .byte 0)) v1 x2) (v2 + 1)) = mm := hm
    refine lv_iload_n hx hb dX10_clearMemory_2 rfl (lv_at hl 2 rfl) ?_
    refine lv_aload_n hx hb dX10_clearMemory_3 rfl (lv_at hl 0 rfl) ?_
    refine eb_get (T := TX10) X hw 0 24 (by decide) ⟨rfl, rfl, rfl⟩ (by decide) (fun _ h => List.mem_cons_of_mem _ (inlX10 _ h)) (List.mem_cons_of_mem _ wi_5_18) (v := .ref (ad 8)) rfl dX10_clearMemory_4 ?_
    refine lv_iload_n hx hb dX10_clearMemory_7 rfl (lv_at hl 1 rfl) ?_
    refine eb_iald (n := 6) X hw 8 (by decide) rfl rfl i0_ dX10_clearMemory_8 ?_
    refine lv_icmp_ge (tgt := 32) hx hb dX10_clearMemory_9 (by decide) (fun h1 => ?_) (fun h1 => ?_)
    · have hm := (if_pos h1).symm.trans hm
      subst hm
      exact eb_vret X hw rfl rfl dX10_clearMemory_32
    · have hm := (if_neg h1).symm.trans hm
      refine lv_aload_n hx hb dX10_clearMemory_12 rfl (lv_at hl 0 rfl) ?_
      refine eb_get (T := TX10) X hw 0 1 (by decide) ⟨rfl, rfl, rfl⟩ (by decide) (fun _ h => List.mem_cons_of_mem _ (inlX10 _ h)) (List.mem_cons_of_mem _ wi_5_8) (v := .ref (ad 1)) rfl dX10_clearMemory_13 ?_
      refine lv_aload_n hx hb dX10_clearMemory_16 rfl (lv_at hl 0 rfl) ?_
      refine eb_get (T := TX10) X hw 0 23 (by decide) ⟨rfl, rfl, rfl⟩ (by decide) (fun _ h => List.mem_cons_of_mem _ (inlX10 _ h)) (List.mem_cons_of_mem _ wi_5_17) (v := .ref (ad 7)) rfl dX10_clearMemory_17 ?_
      refine lv_iload_n hx hb dX10_clearMemory_20 rfl (lv_at hl 1 rfl) ?_
      refine eb_iald (n := 6) X hw 7 (by decide) rfl rfl i0_ dX10_clearMemory_21 ?_
      refine lv_iload_n hx hb dX10_clearMemory_22 rfl (lv_at hl 2 rfl) ?_
      refine lv_iadd hx hb dX10_clearMemory_23 ?_
      refine lv_iconst (v := 0) hx hb dX10_clearMemory_24 (by decide) ?_
      refine eb_bast (n := 65536) X hw 1 (by decide) rfl rfl (eb_in_sum (hj_.2.1 _ (eb_lt i0_)).1 i1_ (eb_nle h1) (hj_.2.1 _ (eb_lt i0_)).2.2) dX10_clearMemory_25 (fun H locs hw => ?_)
      obtain ⟨x2, ex2⟩ : ∃ z : Int32, z = v2 + 1 := ⟨_, rfl⟩
      have hm : m_X10_clearMemory_2  n (eb_pI σ 1 (((σ.1 7 v1.toNatClampNeg) + v2).toNatClampNeg) (vp_nar .byte 0)) v1 x2 = mm := by rw [ex2]; exact hm
      refine lv_iinc (v := x2) (lv' := [(2, .int x2), (0, .ref (ad 0)), (1, .int v1)]) hx hb dX10_clearMemory_26 hl (k := 2) rfl (by rw [ex2]; exact congrArg (v2 + ·) (by decide)) (by decide) rfl (fun ls hl => ?_)
      refine lv_goto (tgt := 2) hx hb dX10_clearMemory_29 (by decide) ?_
      exact ih (eb_pI σ 1 (((σ.1 7 v1.toNatClampNeg) + v2).toNatClampNeg) (vp_nar .byte 0)) v1 x2 hj_ i0_ (eb_up i1_ (eb_nle h1) ex2 hn).1 (eb_up i1_ (eb_nle h1) ex2 hn).2 hm hw (lv_sub hl [1, 2, 0] rfl)
set_option maxHeartbeats 4000000 in
set_option maxRecDepth 100000 in
theorem c_X10_clearMemory (l : Launch) (D : va_G) (cy : Nat → ClassId) (ad : Nat → Nat) (σ : eb_St) (a0 : Int32) (hj_ : rJ σ) (h0_ : vp_in a0 6) : eb_M l yX10_clearMemory (Cond.code yX10_clearMemory cX10_clearMemory 3 none :: wsL_law) 0 0 D 18 cy rL ad σ [.ref (ad 0), .int a0] (none) (m_X10_clearMemory σ a0) := by
  refine eb_start (own := RX10) (by decide) rfl rfl (Nat.le_of_ble_eq_true rfl) ?_
  intro p e s m args below meth c A ls X hw hl
  have hl : lv_has ls 3 [(0, .ref (ad 0)), (1, .int a0)] := hl
  have hx := X.1.1
  have hb := X.1.2.1
  have hown := X.1.2.2.2.1
  have hts := X.1.2.2.2.2
  generalize hm : m_X10_clearMemory σ a0 = mm
  have hm : m_X10_clearMemory_2  (((σ.1 8 a0.toNatClampNeg).toInt - (0 : Int32).toInt).toNat + 1) σ a0 0 = mm := hm
  refine lv_iconst (v := 0) hx hb dX10_clearMemory_0 (by decide) ?_
  refine lv_istore_n (lv' := [(2, .int 0), (0, .ref (ad 0)), (1, .int a0)]) hx hb dX10_clearMemory_1 rfl hl (by decide) rfl (fun ls hl => ?_)
  exact k_X10_clearMemory_2 X   (((σ.1 8 a0.toNatClampNeg).toInt - (0 : Int32).toInt).toNat + 1) σ a0 0 hj_ h0_ (by decide) (Nat.lt_succ_self _) hm hw (lv_sub hl [1, 2, 0] rfl)

theorem J_X10_put_3 : ∀ (n : Nat) (σ : eb_St) (v1 : Int32) (v2 : Int32) (v3 : Int64) (v5 : Int32) {mm : eb_St} (_ : (m_X10_put_3  n σ v1 v2 v3 v5) = mm) (hj_ : rJ σ) (i0_ : 0 ≤ v1.toInt) (i1_ : v1.toInt + v2.toInt ≤ 65536) (i2_ : 0 ≤ v5.toInt) (hn : (v2.toInt - v5.toInt).toNat < n), rJ mm := by
  intro n
  induction n with
  | zero => intro σ v1 v2 v3 v5 mm hm hj_ i0_ i1_ i2_ hn; exact absurd hn (Nat.not_lt_zero _)
  | succ n ih =>
    intro σ v1 v2 v3 v5 mm hm hj_ i0_ i1_ i2_ hn
    have hm : (if v2 ≤ v5 then σ else (fun (x2 : Int32) => (fun (x3 : Int32) => m_X10_put_3  n (eb_pI σ 1 ((v1 + v5).toNatClampNeg) (vp_nar .byte x2)) v1 v2 v3 x3) (v5 + 1)) (((eb_lshr v3 (8 * v5)).toInt32).toInt8.toInt32)) = mm := hm
    refine eb_em (c := v2 ≤ v5) (fun h1 => ?_) (fun h1 => ?_)
    · have hm := (if_pos h1).symm.trans hm
      subst hm
      exact hj_
    · have hm := (if_neg h1).symm.trans hm
      obtain ⟨x2, ex2⟩ : ∃ z : Int32, z = ((eb_lshr v3 (8 * v5)).toInt32).toInt8.toInt32 := ⟨_, rfl⟩
      have hm : (fun (x3 : Int32) => m_X10_put_3  n (eb_pI σ 1 ((v1 + v5).toNatClampNeg) (vp_nar .byte x2)) v1 v2 v3 x3) (v5 + 1) = mm := by rw [ex2]; exact hm
      obtain ⟨x3, ex3⟩ : ∃ z : Int32, z = v5 + 1 := ⟨_, rfl⟩
      have hm : m_X10_put_3  n (eb_pI σ 1 ((v1 + v5).toNatClampNeg) (vp_nar .byte x2)) v1 v2 v3 x3 = mm := by rw [ex3]; exact hm
      exact ih (eb_pI σ 1 ((v1 + v5).toNatClampNeg) (vp_nar .byte x2)) v1 v2 v3 x3 hm hj_ i0_ i1_ (eb_up i2_ (eb_nle h1) ex3 hn).1 (eb_up1 (eb_nle h1) ex3 hn)
theorem J_X10_put {σ : eb_St} {a0 : Int32} {a1 : Int32} {a2 : Int64} {mm : eb_St} (hm : m_X10_put σ a0 a1 a2 = mm) (hj_ : rJ σ) (h0_ : 0 ≤ a0.toInt) (h1_ : a0.toInt + a1.toInt ≤ 65536) : rJ mm := by
  have hm : m_X10_put_3  ((a1.toInt - (0 : Int32).toInt).toNat + 1) σ a0 a1 a2 0 = mm := hm
  exact J_X10_put_3 ((a1.toInt - (0 : Int32).toInt).toNat + 1) σ a0 a1 a2 0 hm hj_ h0_ h1_ (by decide) (Nat.lt_succ_self _)
set_option maxHeartbeats 4000000 in
set_option maxRecDepth 100000 in
theorem k_X10_put_3 {p : Program} {l : Launch} {e : Env} {s : State} {m : MethodId} {args : Array Value} {below : List Frame} {meth : Method} {c : Code} {A : Nat → Prop} {D : va_G} {cy : Nat → ClassId} {ad : Nat → Nat} (X : eb_X p s m args meth c cX10_put 6 RX10 (Cond.code yX10_put cX10_put 6 none :: wsL_law) none D cy A)   : ∀ (n : Nat) (σ : eb_St) (v1 : Int32) (v2 : Int32) (v3 : Int64) (v5 : Int32) (hj_ : rJ σ) (i0_ : 0 ≤ v1.toInt) (i1_ : v1.toInt + v2.toInt ≤ 65536) (i2_ : 0 ≤ v5.toInt) (hn : (v2.toInt - v5.toInt).toNat < n) {H : Heap} {locs : List Loc} {ls : Array Slot} {mm : eb_St} (_ : (m_X10_put_3  n σ v1 v2 v3 v5) = mm) (hw : eb_H D 18 cy rL ad A s.heap σ H locs) (hl : lv_has ls 6 [(0, .ref (ad 0)), (1, .int v1), (2, .int v2), (3, .long v3), (5, .int v5)]), W p l e ({ frames := 0, cells := 0, slots := 0, locals := 0 } : Room) s m args below meth c H locs 0 0 (MQ below (eb_Q D 18 cy rL ad A (none) mm) args s 0 0 A) (F0 m 3 ls []) := by
  have hx := X.1.1
  have hb := X.1.2.1
  have hown := X.1.2.2.2.1
  have hts := X.1.2.2.2.2
  intro n
  induction n with
  | zero => intro σ v1 v2 v3 v5 hj_ i0_ i1_ i2_ hn; exact absurd hn (Nat.not_lt_zero _)
  | succ n ih =>
    intro σ v1 v2 v3 v5 hj_ i0_ i1_ i2_ hn H locs ls mm hm hw hl
    have hm : (if v2 ≤ v5 then σ else (fun (x2 : Int32) => (fun (x3 : Int32) => m_X10_put_3  n (eb_pI σ 1 ((v1 + v5).toNatClampNeg) (vp_nar .byte x2)) v1 v2 v3 x3) (v5 + 1)) (((eb_lshr v3 (8 * v5)).toInt32).toInt8.toInt32)) = mm := hm
    refine lv_iload hx hb dX10_put_3 (lv_at hl 4 rfl) ?_
    refine lv_iload_n hx hb dX10_put_5 rfl (lv_at hl 2 rfl) ?_
    refine lv_icmp_ge (tgt := 33) hx hb dX10_put_6 (by decide) (fun h1 => ?_) (fun h1 => ?_)
    · have hm := (if_pos h1).symm.trans hm
      subst hm
      exact eb_vret X hw rfl rfl dX10_put_33
    · have hm := (if_neg h1).symm.trans hm
      refine lv_aload_n hx hb dX10_put_9 rfl (lv_at hl 0 rfl) ?_
      refine eb_get (T := TX10) X hw 0 1 (by decide) ⟨rfl, rfl, rfl⟩ (by decide) (fun _ h => List.mem_cons_of_mem _ (inlX10 _ h)) (List.mem_cons_of_mem _ wi_5_8) (v := .ref (ad 1)) rfl dX10_put_10 ?_
      refine lv_iload_n hx hb dX10_put_13 rfl (lv_at hl 1 rfl) ?_
      refine lv_iload hx hb dX10_put_14 (lv_at hl 4 rfl) ?_
      refine lv_iadd hx hb dX10_put_16 ?_
      refine lv_lload_n hx hb dX10_put_17 rfl (lv_at hl 3 rfl) ?_
      refine lv_bipush (v := 8) hx hb dX10_put_18 (by decide) ?_
      refine lv_iload hx hb dX10_put_20 (lv_at hl 4 rfl) ?_
      refine lv_imul hx hb dX10_put_22 ?_
      refine lv_lshr (v := eb_lshr v3 (8 * v5)) hx hb dX10_put_23 rfl ?_
      refine lv_l2i (v := (eb_lshr v3 (8 * v5)).toInt32) hx hb dX10_put_24 rfl ?_
      refine lv_i2b (v := ((eb_lshr v3 (8 * v5)).toInt32).toInt8.toInt32) hx hb dX10_put_25 rfl ?_
      refine lv_topi (fun x2 ex2 => ?_)
      have hm : (fun (x3 : Int32) => m_X10_put_3  n (eb_pI σ 1 ((v1 + v5).toNatClampNeg) (vp_nar .byte x2)) v1 v2 v3 x3) (v5 + 1) = mm := by rw [ex2]; exact hm
      refine eb_bast (n := 65536) X hw 1 (by decide) rfl rfl (eb_in_sum i0_ i2_ (eb_nle h1) i1_) dX10_put_26 (fun H locs hw => ?_)
      obtain ⟨x3, ex3⟩ : ∃ z : Int32, z = v5 + 1 := ⟨_, rfl⟩
      have hm : m_X10_put_3  n (eb_pI σ 1 ((v1 + v5).toNatClampNeg) (vp_nar .byte x2)) v1 v2 v3 x3 = mm := by rw [ex3]; exact hm
      refine lv_iinc (v := x3) (lv' := [(5, .int x3), (0, .ref (ad 0)), (1, .int v1), (2, .int v2), (3, .long v3)]) hx hb dX10_put_27 hl (k := 4) rfl (by rw [ex3]; exact congrArg (v5 + ·) (by decide)) (by decide) rfl (fun ls hl => ?_)
      refine lv_goto (tgt := 3) hx hb dX10_put_30 (by decide) ?_
      exact ih (eb_pI σ 1 ((v1 + v5).toNatClampNeg) (vp_nar .byte x2)) v1 v2 v3 x3 hj_ i0_ i1_ (eb_up i2_ (eb_nle h1) ex3 hn).1 (eb_up1 (eb_nle h1) ex3 hn) hm hw (lv_sub hl [1, 2, 3, 4, 0] rfl)
set_option maxHeartbeats 4000000 in
set_option maxRecDepth 100000 in
theorem c_X10_put (l : Launch) (D : va_G) (cy : Nat → ClassId) (ad : Nat → Nat) (σ : eb_St) (a0 : Int32) (a1 : Int32) (a2 : Int64) (hj_ : rJ σ) (h0_ : 0 ≤ a0.toInt) (h1_ : a0.toInt + a1.toInt ≤ 65536) : eb_M l yX10_put (Cond.code yX10_put cX10_put 6 none :: wsL_law) 0 0 D 18 cy rL ad σ [.ref (ad 0), .int a0, .int a1, .long a2] (none) (m_X10_put σ a0 a1 a2) := by
  refine eb_start (own := RX10) (by decide) rfl rfl (Nat.le_of_ble_eq_true rfl) ?_
  intro p e s m args below meth c A ls X hw hl
  have hl : lv_has ls 6 [(0, .ref (ad 0)), (1, .int a0), (2, .int a1), (3, .long a2)] := hl
  have hx := X.1.1
  have hb := X.1.2.1
  have hown := X.1.2.2.2.1
  have hts := X.1.2.2.2.2
  generalize hm : m_X10_put σ a0 a1 a2 = mm
  have hm : m_X10_put_3  ((a1.toInt - (0 : Int32).toInt).toNat + 1) σ a0 a1 a2 0 = mm := hm
  refine lv_iconst (v := 0) hx hb dX10_put_0 (by decide) ?_
  refine lv_istore (lv' := [(5, .int 0), (0, .ref (ad 0)), (1, .int a0), (2, .int a1), (3, .long a2)]) hx hb dX10_put_1 hl (by decide) rfl (fun ls hl => ?_)
  exact k_X10_put_3 X   ((a1.toInt - (0 : Int32).toInt).toNat + 1) σ a0 a1 a2 0 hj_ h0_ h1_ (by decide) (Nat.lt_succ_self _) hm hw (lv_sub hl [1, 2, 3, 4, 0] rfl)

set_option maxHeartbeats 4000000 in
set_option maxRecDepth 100000 in
theorem k_X10_take_7 {p : Program} {l : Launch} {e : Env} {s : State} {m : MethodId} {args : Array Value} {below : List Frame} {meth : Method} {c : Code} {A : Nat → Prop} {D : va_G} {cy : Nat → ClassId} {ad : Nat → Nat} (X : eb_X p s m args meth c cX10_take 6 RX10 (Cond.code yX10_take cX10_take 6 (some .long) :: wsL_law) (some .long) D cy A)   : ∀ (n : Nat) (σ : eb_St) (v1 : Int32) (v3 : Int64) (v5 : Int32)  (i0_ : 0 ≤ v1.toInt) (i1_ : v1.toInt + v5.toInt < 65536) (hn : (v5.toInt + 1).toNat < n) {H : Heap} {locs : List Loc} {ls : Array Slot} {mm : Int64} (_ : (m_X10_take_7  n σ v1 v3 v5) = mm) (hw : eb_H D 18 cy rL ad A s.heap σ H locs) (hl : lv_has ls 6 [(0, .ref (ad 0)), (1, .int v1), (3, .long v3), (5, .int v5)]), W p l e ({ frames := 0, cells := 0, slots := 0, locals := 0 } : Room) s m args below meth c H locs 0 0 (MQ below (eb_Q D 18 cy rL ad A (some (.long mm)) σ) args s 0 0 A) (F0 m 7 ls []) := by
  have hx := X.1.1
  have hb := X.1.2.1
  have hown := X.1.2.2.2.1
  have hts := X.1.2.2.2.2
  intro n
  induction n with
  | zero => intro σ v1 v3 v5 i0_ i1_ hn; exact absurd hn (Nat.not_lt_zero _)
  | succ n ih =>
    intro σ v1 v3 v5 i0_ i1_ hn H locs ls mm hm hw hl
    have hm : (if v5 < 0 then v3 else (fun (x3 : Int64) => (fun (x4 : Int32) => m_X10_take_7  n σ v1 x3 x4) (v5 + (-1))) ((eb_lshl v3 8) ||| (((σ.1 1 (v1 + v5).toNatClampNeg) &&& 255).toInt64))) = mm := hm
    refine lv_iload hx hb dX10_take_7 (lv_at hl 3 rfl) ?_
    refine lv_if_lt (tgt := 38) hx hb dX10_take_9 (by decide) (fun h2 => ?_) (fun h2 => ?_)
    · have hm := (if_pos h2).symm.trans hm
      refine lv_lload_n hx hb dX10_take_38 rfl (lv_at hl 2 rfl) ?_
      subst hm
      exact eb_lret X hw rfl rfl rfl dX10_take_39
    · have hm := (if_neg h2).symm.trans hm
      refine lv_lload_n hx hb dX10_take_12 rfl (lv_at hl 2 rfl) ?_
      refine lv_bipush (v := 8) hx hb dX10_take_13 (by decide) ?_
      refine lv_lshl (v := eb_lshl v3 8) hx hb dX10_take_15 rfl ?_
      refine lv_aload_n hx hb dX10_take_16 rfl (lv_at hl 0 rfl) ?_
      refine eb_get (T := TX10) X hw 0 1 (by decide) ⟨rfl, rfl, rfl⟩ (by decide) (fun _ h => List.mem_cons_of_mem _ (inlX10 _ h)) (List.mem_cons_of_mem _ wi_5_8) (v := .ref (ad 1)) rfl dX10_take_17 ?_
      refine lv_iload_n hx hb dX10_take_20 rfl (lv_at hl 1 rfl) ?_
      refine lv_iload hx hb dX10_take_21 (lv_at hl 3 rfl) ?_
      refine lv_iadd hx hb dX10_take_23 ?_
      refine eb_bald (n := 65536) X hw 1 (by decide) rfl rfl (eb_in_sum2 i0_ (eb_nlt h2) i1_) dX10_take_24 ?_
      refine lv_sipush (v := 255) hx hb dX10_take_25 (by decide) ?_
      refine lv_iand hx hb dX10_take_28 ?_
      refine lv_i2l (v := ((σ.1 1 (v1 + v5).toNatClampNeg) &&& 255).toInt64) hx hb dX10_take_29 rfl ?_
      refine lv_lor hx hb dX10_take_30 ?_
      refine lv_topl (fun x3 ex3 => ?_)
      have hm : (fun (x4 : Int32) => m_X10_take_7  n σ v1 x3 x4) (v5 + (-1)) = mm := by rw [ex3]; exact hm
      refine lv_lstore_n (lv' := [(3, .long x3), (0, .ref (ad 0)), (1, .int v1), (5, .int v5)]) hx hb dX10_take_31 rfl hl (by decide) rfl (fun ls hl => ?_)
      obtain ⟨x4, ex4⟩ : ∃ z : Int32, z = v5 + (-1) := ⟨_, rfl⟩
      have hm : m_X10_take_7  n σ v1 x3 x4 = mm := by rw [ex4]; exact hm
      refine lv_iinc (v := x4) (lv' := [(5, .int x4), (3, .long x3), (0, .ref (ad 0)), (1, .int v1)]) hx hb dX10_take_32 hl (k := 3) rfl (by rw [ex4]; exact congrArg (v5 + ·) (by decide)) (by decide) rfl (fun ls hl => ?_)
      refine lv_goto (tgt := 7) hx hb dX10_take_35 (by decide) ?_
      exact ih σ v1 x3 x4 i0_ (by have q := (eb_dn (eb_nlt h2) ex4 hn).2.2; omega) (eb_dn (eb_nlt h2) ex4 hn).2.1 hm hw (lv_sub hl [2, 3, 1, 0] rfl)
set_option maxHeartbeats 4000000 in
set_option maxRecDepth 100000 in
theorem c_X10_take (l : Launch) (D : va_G) (cy : Nat → ClassId) (ad : Nat → Nat) (σ : eb_St) (a0 : Int32) (a1 : Int32) (h0_ : 0 ≤ a0.toInt) (h1_ : a0.toInt + a1.toInt ≤ 65536) (h2_ : 0 ≤ a1.toInt) : eb_M l yX10_take (Cond.code yX10_take cX10_take 6 (some .long) :: wsL_law) 0 0 D 18 cy rL ad σ [.ref (ad 0), .int a0, .int a1] (some (.long (m_X10_take σ a0 a1))) σ := by
  refine eb_start (own := RX10) (by decide) rfl rfl (Nat.le_of_ble_eq_true rfl) ?_
  intro p e s m args below meth c A ls X hw hl
  have hl : lv_has ls 6 [(0, .ref (ad 0)), (1, .int a0), (2, .int a1)] := hl
  have hx := X.1.1
  have hb := X.1.2.1
  have hown := X.1.2.2.2.1
  have hts := X.1.2.2.2.2
  generalize hm : m_X10_take σ a0 a1 = mm
  have hm : (fun (x1 : Int32) => m_X10_take_7  ((x1.toInt + 1).toNat + 1) σ a0 0 x1) (a1 - 1) = mm := hm
  refine lv_lconst (v := 0) hx hb dX10_take_0 (by decide) ?_
  refine lv_lstore_n (lv' := [(3, .long 0), (0, .ref (ad 0)), (1, .int a0), (2, .int a1)]) hx hb dX10_take_1 rfl hl (by decide) rfl (fun ls hl => ?_)
  refine lv_iload_n hx hb dX10_take_2 rfl (lv_at hl 3 rfl) ?_
  refine lv_iconst (v := 1) hx hb dX10_take_3 (by decide) ?_
  refine lv_isub hx hb dX10_take_4 ?_
  refine lv_topi (fun x1 ex1 => ?_)
  have hm : m_X10_take_7  ((x1.toInt + 1).toNat + 1) σ a0 0 x1 = mm := by rw [ex1]; exact hm
  refine lv_istore (lv' := [(5, .int x1), (3, .long 0), (0, .ref (ad 0)), (1, .int a0), (2, .int a1)]) hx hb dX10_take_5 hl (by decide) rfl (fun ls hl => ?_)
  exact k_X10_take_7 X   ((x1.toInt + 1).toNat + 1) σ a0 0 x1 h0_ (eb_take0 ex1 h1_ h2_) (Nat.lt_succ_self _) hm hw (lv_sub hl [2, 3, 1, 0] rfl)

theorem J_X10_ends {σ : eb_St} {a0 : Int32} {a1 : Int64} {a2 : Int64} {mm : eb_St} (hm : m_X10_ends σ a0 a1 a2 = mm) (hj_ : rJ σ) (h0_ : vp_in (σ.1 0 8) 6) : rJ mm := by
  have hm : (fun (z1 : eb_St) => (if a1 = 1 then eb_pI z1 0 12 ((z1.1 0 12) + 1) else z1)) (m_X10_hostGets (eb_pI (eb_pI (eb_pI σ 6 ((σ.1 0 8).toNatClampNeg) a0) 0 8 (-1)) 0 35 0) a1 a2) = mm := hm
  obtain ⟨z1, qz1⟩ : ∃ t : eb_St, t = m_X10_hostGets (eb_pI (eb_pI (eb_pI σ 6 ((σ.1 0 8).toNatClampNeg) a0) 0 8 (-1)) 0 35 0) a1 a2 := ⟨_, rfl⟩
  have hm : (if a1 = 1 then eb_pI z1 0 12 ((z1.1 0 12) + 1) else z1) = mm := by rw [qz1]; exact hm
  have jz1 : rJ z1 := J_X10_hostGets qz1.symm (show rJ (eb_pI (eb_pI σ 6 ((σ.1 0 8).toNatClampNeg) a0) 0 8 (-1)) from (rJ_m1 (show rJ (eb_pI σ 6 (σ.1 0 8).toNatClampNeg a0) from rJ_w hj_ (Or.inr (rJ_sz hj_ h0_)))))
  refine eb_emn (c := a1 = 1) (fun h2 => ?_) (fun h2 => ?_)
  · have hm := (if_neg h2).symm.trans hm
    subst hm
    exact jz1
  · have hm := (if_pos h2).symm.trans hm
    subst hm
    exact jz1
set_option maxHeartbeats 4000000 in
set_option maxRecDepth 100000 in
theorem c_X10_ends (l : Launch) (D : va_G) (cy : Nat → ClassId) (ad : Nat → Nat) (σ : eb_St) (a0 : Int32) (a1 : Int64) (a2 : Int64) (hj_ : rJ σ) (h0_ : vp_in (σ.1 0 8) 6) : eb_M l yX10_ends (Cond.code yX10_ends cX10_ends 6 none :: wsL_law) 1 24 D 18 cy rL ad σ [.ref (ad 0), .int a0, .long a1, .long a2] (none) (m_X10_ends σ a0 a1 a2) := by
  refine eb_start (own := RX10) (by decide) rfl rfl (Nat.le_of_ble_eq_true rfl) ?_
  intro p e s m args below meth c A ls X hw hl
  have hl : lv_has ls 6 [(0, .ref (ad 0)), (1, .int a0), (2, .long a1), (4, .long a2)] := hl
  have hx := X.1.1
  have hb := X.1.2.1
  have hown := X.1.2.2.2.1
  have hts := X.1.2.2.2.2
  generalize hm : m_X10_ends σ a0 a1 a2 = mm
  have hm : (fun (z1 : eb_St) => (if a1 = 1 then eb_pI z1 0 12 ((z1.1 0 12) + 1) else z1)) (m_X10_hostGets (eb_pI (eb_pI (eb_pI σ 6 ((σ.1 0 8).toNatClampNeg) a0) 0 8 (-1)) 0 35 0) a1 a2) = mm := hm
  refine lv_aload_n hx hb dX10_ends_0 rfl (lv_at hl 0 rfl) ?_
  refine eb_get (T := TX10) X hw 0 22 (by decide) ⟨rfl, rfl, rfl⟩ (by decide) (fun _ h => List.mem_cons_of_mem _ (inlX10 _ h)) (List.mem_cons_of_mem _ wi_5_16) (v := .ref (ad 6)) rfl dX10_ends_1 ?_
  refine lv_aload_n hx hb dX10_ends_4 rfl (lv_at hl 0 rfl) ?_
  refine eb_get (T := TX10) X hw 0 8 (by decide) ⟨rfl, rfl, rfl⟩ (by decide) (fun _ h => List.mem_cons_of_mem _ (inlX10 _ h)) (List.mem_cons_of_mem _ wi_5_13) (v := .int (σ.1 0 8)) rfl dX10_ends_5 ?_
  refine lv_iload_n hx hb dX10_ends_8 rfl (lv_at hl 1 rfl) ?_
  refine eb_iast (n := 6) X hw 6 (by decide) rfl rfl h0_ dX10_ends_9 (fun H locs hw => ?_)
  refine lv_aload_n hx hb dX10_ends_10 rfl (lv_at hl 0 rfl) ?_
  refine lv_iconst (v := (-1)) hx hb dX10_ends_11 (by decide) ?_
  refine eb_putI (T := TX10) X hw 0 8 (by decide) ⟨rfl, rfl, rfl⟩ (by decide) rfl (fun _ h => List.mem_cons_of_mem _ (inlX10 _ h)) (List.mem_cons_of_mem _ wi_5_13) tyX10 tyX10_ok nmX10 rfl rfl rfl dX10_ends_12 (fun H locs hw => ?_)
  refine lv_aload_n hx hb dX10_ends_15 rfl (lv_at hl 0 rfl) ?_
  refine lv_iconst (v := 0) hx hb dX10_ends_16 (by decide) ?_
  refine eb_putI (T := TX10) X hw 0 35 (by decide) ⟨rfl, rfl, rfl⟩ (by decide) rfl (fun _ h => List.mem_cons_of_mem _ (inlX10 _ h)) (List.mem_cons_of_mem _ wi_9_21) tyX10 tyX10_ok nmX10 rfl rfl rfl dX10_ends_17 (fun H locs hw => ?_)
  refine lv_aload_n hx hb dX10_ends_20 rfl (lv_at hl 0 rfl) ?_
  refine lv_lload_n hx hb dX10_ends_21 rfl (lv_at hl 2 rfl) ?_
  refine lv_lload hx hb dX10_ends_22 (lv_at hl 3 rfl) ?_
  obtain ⟨z1, qz1⟩ : ∃ t : eb_St, t = m_X10_hostGets (eb_pI (eb_pI (eb_pI σ 6 ((σ.1 0 8).toNatClampNeg) a0) 0 8 (-1)) 0 35 0) a1 a2 := ⟨_, rfl⟩
  have hm : (if a1 = 1 then eb_pI z1 0 12 ((z1.1 0 12) + 1) else z1) = mm := by rw [qz1]; exact hm
  have jz1 : rJ z1 := J_X10_hostGets qz1.symm (show rJ (eb_pI (eb_pI σ 6 ((σ.1 0 8).toNatClampNeg) a0) 0 8 (-1)) from (rJ_m1 (show rJ (eb_pI σ 6 (σ.1 0 8).toNatClampNeg a0) from rJ_w hj_ (Or.inr (rJ_sz hj_ h0_)))))
  have hc : eb_M l yX10_hostGets (Cond.code yX10_hostGets cX10_hostGets 5 none :: wsL_law) 0 0 D 18 cy rL ad (eb_pI (eb_pI (eb_pI σ 6 ((σ.1 0 8).toNatClampNeg) a0) 0 8 (-1)) 0 35 0) [.ref (ad 0), .long a1, .long a2] (none) z1 := by rw [qz1]; exact c_X10_hostGets l D cy ad (eb_pI (eb_pI (eb_pI σ 6 ((σ.1 0 8).toNatClampNeg) a0) 0 8 (-1)) 0 35 0) a1 a2 (show rJ (eb_pI (eb_pI σ 6 ((σ.1 0 8).toNatClampNeg) a0) 0 8 (-1)) from (rJ_m1 (show rJ (eb_pI σ 6 (σ.1 0 8).toNatClampNeg a0) from rJ_w hj_ (Or.inr (rJ_sz hj_ h0_)))))
  refine eb_callV (n := 2) (as := [.long a1, .long a2]) (rest := []) X hw hl.1 0 hc (by decide) ⟨rfl, rfl, rfl⟩ (eb_goodV wi_29_23 wi_30_0 wi_30_1 wi_1_5 wi_30_2) rfl (by decide +kernel) ⟨by decide, by decide⟩ rfl rfl (Nat.le_of_ble_eq_true rfl) dX10_ends_24 ⟨by decide, by decide⟩ (st' := []) rfl (fun H locs hw => ?_)
  refine lv_lload_n hx hb dX10_ends_27 rfl (lv_at hl 2 rfl) ?_
  refine lv_lconst (v := 1) hx hb dX10_ends_28 (by decide) ?_
  refine eb_lif_ne (tgt := 43) hx hb dX10_ends_29 dX10_ends_30 (by decide) (fun h2 => ?_) (fun h2 => ?_)
  · have hm := (if_neg h2).symm.trans hm
    subst hm
    exact eb_vret X hw rfl rfl dX10_ends_43
  · have hm := (if_pos h2).symm.trans hm
    refine lv_aload_n hx hb dX10_ends_33 rfl (lv_at hl 0 rfl) ?_
    refine lv_dup hx hb dX10_ends_34 rfl ?_
    refine eb_get (T := TX10) X hw 0 12 (by decide) ⟨rfl, rfl, rfl⟩ (by decide) (fun _ h => List.mem_cons_of_mem _ (inlX10 _ h)) (List.mem_cons_of_mem _ wi_9_13) (v := .int (z1.1 0 12)) rfl dX10_ends_35 ?_
    refine lv_iconst (v := 1) hx hb dX10_ends_38 (by decide) ?_
    refine lv_iadd hx hb dX10_ends_39 ?_
    refine eb_putI (T := TX10) X hw 0 12 (by decide) ⟨rfl, rfl, rfl⟩ (by decide) rfl (fun _ h => List.mem_cons_of_mem _ (inlX10 _ h)) (List.mem_cons_of_mem _ wi_9_13) tyX10 tyX10_ok nmX10 rfl rfl rfl dX10_ends_40 (fun H locs hw => ?_)
    subst hm
    exact eb_vret X hw rfl rfl dX10_ends_43

set_option maxHeartbeats 4000000 in
set_option maxRecDepth 100000 in
theorem c_X10_byteOf (l : Launch) (D : va_G) (cy : Nat → ClassId) (ad : Nat → Nat) (σ : eb_St) (a0 : Int32) (hj_ : rJ σ) (h0_ : vp_in a0 16) : eb_M l yX10_byteOf (Cond.code yX10_byteOf cX10_byteOf 2 (some .int) :: wsL_law) 1 21 D 18 cy rL ad σ [.ref (ad 0), .int a0] (some (.int (m_X10_byteOf σ a0))) σ := by
  refine eb_start (own := RX10) (by decide) rfl rfl (Nat.le_of_ble_eq_true rfl) ?_
  intro p e s m args below meth c A ls X hw hl
  have hl : lv_has ls 2 [(0, .ref (ad 0)), (1, .int a0)] := hl
  have hx := X.1.1
  have hb := X.1.2.1
  have hown := X.1.2.2.2.1
  have hts := X.1.2.2.2.2
  generalize hm : m_X10_byteOf σ a0 = mm
  have hm : (if (6 : Int32) ≤ a0 then (if a0 = 6 then (if (σ.1 0 8) < 0 then 0 else (if (σ.1 11 (σ.1 0 8).toNatClampNeg) ≤ 0 then 0 else 27)) else (if a0 = 7 then (if (σ.1 0 8) < 0 then 0 else 24) else σ.1 4 a0.toNatClampNeg)) else (fun (z7 : Bool) => (if (eb_b z7) = 0 then 0 else (if a0 = (σ.1 0 8) then 31 else 24))) (m_X10_isLive σ a0)) = mm := hm
  refine lv_iload_n hx hb dX10_byteOf_0 rfl (lv_at hl 1 rfl) ?_
  refine lv_bipush (v := 6) hx hb dX10_byteOf_1 (by decide) ?_
  refine lv_icmp_ge (tgt := 34) hx hb dX10_byteOf_3 (by decide) (fun h1 => ?_) (fun h1 => ?_)
  · have hm := (if_pos h1).symm.trans hm
    refine lv_iload_n hx hb dX10_byteOf_34 rfl (lv_at hl 1 rfl) ?_
    refine lv_bipush (v := 6) hx hb dX10_byteOf_35 (by decide) ?_
    refine lv_icmp_ne (tgt := 66) hx hb dX10_byteOf_37 (by decide) (fun h2 => ?_) (fun h2 => ?_)
    · have hm := (if_neg h2).symm.trans hm
      refine lv_iload_n hx hb dX10_byteOf_66 rfl (lv_at hl 1 rfl) ?_
      refine lv_bipush (v := 7) hx hb dX10_byteOf_67 (by decide) ?_
      refine lv_icmp_ne (tgt := 88) hx hb dX10_byteOf_69 (by decide) (fun h3 => ?_) (fun h3 => ?_)
      · have hm := (if_neg h3).symm.trans hm
        refine lv_aload_n hx hb dX10_byteOf_88 rfl (lv_at hl 0 rfl) ?_
        refine eb_get (T := TX10) X hw 0 20 (by decide) ⟨rfl, rfl, rfl⟩ (by decide) (fun _ h => List.mem_cons_of_mem _ (inlX10 _ h)) (List.mem_cons_of_mem _ wi_5_14) (v := .ref (ad 4)) rfl dX10_byteOf_89 ?_
        refine lv_iload_n hx hb dX10_byteOf_92 rfl (lv_at hl 1 rfl) ?_
        refine eb_iald (n := 16) X hw 4 (by decide) rfl rfl h0_ dX10_byteOf_93 ?_
        subst hm
        exact eb_iret X hw rfl rfl rfl dX10_byteOf_94
      · have hm := (if_pos h3).symm.trans hm
        refine lv_aload_n hx hb dX10_byteOf_72 rfl (lv_at hl 0 rfl) ?_
        refine eb_get (T := TX10) X hw 0 8 (by decide) ⟨rfl, rfl, rfl⟩ (by decide) (fun _ h => List.mem_cons_of_mem _ (inlX10 _ h)) (List.mem_cons_of_mem _ wi_5_13) (v := .int (σ.1 0 8)) rfl dX10_byteOf_73 ?_
        refine lv_if_lt (tgt := 84) hx hb dX10_byteOf_76 (by decide) (fun h4 => ?_) (fun h4 => ?_)
        · have hm := (if_pos h4).symm.trans hm
          refine lv_iconst (v := 0) hx hb dX10_byteOf_84 (by decide) ?_
          refine lv_goto (tgt := 94) hx hb dX10_byteOf_85 (by decide) ?_
          subst hm
          exact eb_iret X hw rfl rfl rfl dX10_byteOf_94
        · have hm := (if_neg h4).symm.trans hm
          refine lv_bipush (v := 24) hx hb dX10_byteOf_79 (by decide) ?_
          refine lv_goto (tgt := 94) hx hb dX10_byteOf_81 (by decide) ?_
          subst hm
          exact eb_iret X hw rfl rfl rfl dX10_byteOf_94
    · have hm := (if_pos h2).symm.trans hm
      refine lv_aload_n hx hb dX10_byteOf_40 rfl (lv_at hl 0 rfl) ?_
      refine eb_get (T := TX10) X hw 0 8 (by decide) ⟨rfl, rfl, rfl⟩ (by decide) (fun _ h => List.mem_cons_of_mem _ (inlX10 _ h)) (List.mem_cons_of_mem _ wi_5_13) (v := .int (σ.1 0 8)) rfl dX10_byteOf_41 ?_
      refine lv_if_lt (tgt := 64) hx hb dX10_byteOf_44 (by decide) (fun h5 => ?_) (fun h5 => ?_)
      · have hm := (if_pos h5).symm.trans hm
        refine lv_iconst (v := 0) hx hb dX10_byteOf_64 (by decide) ?_
        subst hm
        exact eb_iret X hw rfl rfl rfl dX10_byteOf_65
      · have hm := (if_neg h5).symm.trans hm
        refine lv_aload_n hx hb dX10_byteOf_47 rfl (lv_at hl 0 rfl) ?_
        refine eb_get (T := TX10) X hw 0 27 (by decide) ⟨rfl, rfl, rfl⟩ (by decide) (fun _ h => List.mem_cons_of_mem _ (inlX10 _ h)) (List.mem_cons_of_mem _ wi_5_21) (v := .ref (ad 11)) rfl dX10_byteOf_48 ?_
        refine lv_aload_n hx hb dX10_byteOf_51 rfl (lv_at hl 0 rfl) ?_
        refine eb_get (T := TX10) X hw 0 8 (by decide) ⟨rfl, rfl, rfl⟩ (by decide) (fun _ h => List.mem_cons_of_mem _ (inlX10 _ h)) (List.mem_cons_of_mem _ wi_5_13) (v := .int (σ.1 0 8)) rfl dX10_byteOf_52 ?_
        refine eb_iald (n := 6) X hw 11 (by decide) rfl rfl (rJ_in hj_ h5) dX10_byteOf_55 ?_
        refine lv_if_le (tgt := 64) hx hb dX10_byteOf_56 (by decide) (fun h6 => ?_) (fun h6 => ?_)
        · have hm := (if_pos h6).symm.trans hm
          refine lv_iconst (v := 0) hx hb dX10_byteOf_64 (by decide) ?_
          subst hm
          exact eb_iret X hw rfl rfl rfl dX10_byteOf_65
        · have hm := (if_neg h6).symm.trans hm
          refine lv_bipush (v := 27) hx hb dX10_byteOf_59 (by decide) ?_
          refine lv_goto (tgt := 65) hx hb dX10_byteOf_61 (by decide) ?_
          subst hm
          exact eb_iret X hw rfl rfl rfl dX10_byteOf_65
  · have hm := (if_neg h1).symm.trans hm
    refine lv_aload_n hx hb dX10_byteOf_6 rfl (lv_at hl 0 rfl) ?_
    refine lv_iload_n hx hb dX10_byteOf_7 rfl (lv_at hl 1 rfl) ?_
    obtain ⟨z7, qz7⟩ : ∃ t : Bool, t = m_X10_isLive σ a0 := ⟨_, rfl⟩
    have hm : (if (eb_b z7) = 0 then 0 else (if a0 = (σ.1 0 8) then 31 else 24)) = mm := by rw [qz7]; exact hm
    have hc : eb_M l yX10_isLive (Cond.code yX10_isLive cX10_isLive 2 (some .boolean) :: wsL_law) 0 0 D 18 cy rL ad σ [.ref (ad 0), .int a0] (some (.int (eb_b z7))) σ := by rw [qz7]; exact c_X10_isLive l D cy ad σ a0 (eb_in_lt h0_ (eb_nle h1) (by decide))
    refine eb_callV (n := 1) (as := [.int a0]) (rest := []) X hw hl.1 0 hc (by decide) ⟨rfl, rfl, rfl⟩ (eb_goodV wi_9_22 wi_9_23 wi_10_0 wi_1_5 wi_10_1) rfl (by decide +kernel) ⟨by decide, by decide⟩ rfl rfl (Nat.le_of_ble_eq_true rfl) dX10_byteOf_8 ⟨by decide, by decide⟩ (st' := [.int (eb_b z7)]) rfl (fun H locs hw => ?_)
    refine lv_if_ne (tgt := 18) hx hb dX10_byteOf_11 (by decide) (fun h8 => ?_) (fun h8 => ?_)
    · have hm := (if_neg h8).symm.trans hm
      refine lv_iload_n hx hb dX10_byteOf_18 rfl (lv_at hl 1 rfl) ?_
      refine lv_aload_n hx hb dX10_byteOf_19 rfl (lv_at hl 0 rfl) ?_
      refine eb_get (T := TX10) X hw 0 8 (by decide) ⟨rfl, rfl, rfl⟩ (by decide) (fun _ h => List.mem_cons_of_mem _ (inlX10 _ h)) (List.mem_cons_of_mem _ wi_5_13) (v := .int (σ.1 0 8)) rfl dX10_byteOf_20 ?_
      refine lv_icmp_ne (tgt := 31) hx hb dX10_byteOf_23 (by decide) (fun h9 => ?_) (fun h9 => ?_)
      · have hm := (if_neg h9).symm.trans hm
        refine lv_bipush (v := 24) hx hb dX10_byteOf_31 (by decide) ?_
        subst hm
        exact eb_iret X hw rfl rfl rfl dX10_byteOf_33
      · have hm := (if_pos h9).symm.trans hm
        refine lv_bipush (v := 31) hx hb dX10_byteOf_26 (by decide) ?_
        refine lv_goto (tgt := 33) hx hb dX10_byteOf_28 (by decide) ?_
        subst hm
        exact eb_iret X hw rfl rfl rfl dX10_byteOf_33
    · have hm := (if_pos h8).symm.trans hm
      refine lv_iconst (v := 0) hx hb dX10_byteOf_14 (by decide) ?_
      refine lv_goto (tgt := 33) hx hb dX10_byteOf_15 (by decide) ?_
      subst hm
      exact eb_iret X hw rfl rfl rfl dX10_byteOf_33

set_option maxHeartbeats 4000000 in
set_option maxRecDepth 100000 in
theorem c_X10_addressOf (l : Launch) (D : va_G) (cy : Nat → ClassId) (ad : Nat → Nat) (σ : eb_St) (a0 : Int32) (hj_ : rJ σ) (h0_ : vp_in a0 16) : eb_M l yX10_addressOf (Cond.code yX10_addressOf cX10_addressOf 2 (some .long) :: wsL_law) 2 42 D 18 cy rL ad σ [.ref (ad 0), .int a0] (some (.long (m_X10_addressOf σ a0))) σ := by
  refine eb_start (own := RX10) (by decide) rfl rfl (Nat.le_of_ble_eq_true rfl) ?_
  intro p e s m args below meth c A ls X hw hl
  have hl : lv_has ls 2 [(0, .ref (ad 0)), (1, .int a0)] := hl
  have hx := X.1.1
  have hb := X.1.2.1
  have hown := X.1.2.2.2.1
  have hts := X.1.2.2.2.2
  generalize hm : m_X10_addressOf σ a0 = mm
  have hm : (if (6 : Int32) ≤ a0 then (if a0 = 6 then (fun (z5 : Int32) => (if z5 = 0 then 0 else (fun (z7 : Int64) => z7) (m_X10_napot (σ.1 10 (σ.1 0 8).toNatClampNeg) (σ.1 11 (σ.1 0 8).toNatClampNeg)))) (m_X10_byteOf σ 6) else (if a0 = 7 then (if (σ.1 0 8) < 0 then 0 else 18014398509481983) else σ.2 5 a0.toNatClampNeg)) else (fun (z8 : Bool) => (if (eb_b z8) = 0 then 0 else (fun (z10 : Int64) => z10) (m_X10_napot (σ.1 7 a0.toNatClampNeg) (σ.1 8 a0.toNatClampNeg)))) (m_X10_isLive σ a0)) = mm := hm
  refine lv_iload_n hx hb dX10_addressOf_0 rfl (lv_at hl 1 rfl) ?_
  refine lv_bipush (v := 6) hx hb dX10_addressOf_1 (by decide) ?_
  refine lv_icmp_ge (tgt := 34) hx hb dX10_addressOf_3 (by decide) (fun h1 => ?_) (fun h1 => ?_)
  · have hm := (if_pos h1).symm.trans hm
    refine lv_iload_n hx hb dX10_addressOf_34 rfl (lv_at hl 1 rfl) ?_
    refine lv_bipush (v := 6) hx hb dX10_addressOf_35 (by decide) ?_
    refine lv_icmp_ne (tgt := 75) hx hb dX10_addressOf_37 (by decide) (fun h2 => ?_) (fun h2 => ?_)
    · have hm := (if_neg h2).symm.trans hm
      refine lv_iload_n hx hb dX10_addressOf_75 rfl (lv_at hl 1 rfl) ?_
      refine lv_bipush (v := 7) hx hb dX10_addressOf_76 (by decide) ?_
      refine lv_icmp_ne (tgt := 98) hx hb dX10_addressOf_78 (by decide) (fun h3 => ?_) (fun h3 => ?_)
      · have hm := (if_neg h3).symm.trans hm
        refine lv_aload_n hx hb dX10_addressOf_98 rfl (lv_at hl 0 rfl) ?_
        refine eb_get (T := TX10) X hw 0 21 (by decide) ⟨rfl, rfl, rfl⟩ (by decide) (fun _ h => List.mem_cons_of_mem _ (inlX10 _ h)) (List.mem_cons_of_mem _ wi_5_15) (v := .ref (ad 5)) rfl dX10_addressOf_99 ?_
        refine lv_iload_n hx hb dX10_addressOf_102 rfl (lv_at hl 1 rfl) ?_
        refine eb_lald (n := 16) X hw 5 (by decide) rfl rfl h0_ dX10_addressOf_103 ?_
        subst hm
        exact eb_lret X hw rfl rfl rfl dX10_addressOf_104
      · have hm := (if_pos h3).symm.trans hm
        refine lv_aload_n hx hb dX10_addressOf_81 rfl (lv_at hl 0 rfl) ?_
        refine eb_get (T := TX10) X hw 0 8 (by decide) ⟨rfl, rfl, rfl⟩ (by decide) (fun _ h => List.mem_cons_of_mem _ (inlX10 _ h)) (List.mem_cons_of_mem _ wi_5_13) (v := .int (σ.1 0 8)) rfl dX10_addressOf_82 ?_
        refine lv_if_lt (tgt := 94) hx hb dX10_addressOf_85 (by decide) (fun h4 => ?_) (fun h4 => ?_)
        · have hm := (if_pos h4).symm.trans hm
          refine lv_lconst (v := 0) hx hb dX10_addressOf_94 (by decide) ?_
          refine lv_goto (tgt := 104) hx hb dX10_addressOf_95 (by decide) ?_
          subst hm
          exact eb_lret X hw rfl rfl rfl dX10_addressOf_104
        · have hm := (if_neg h4).symm.trans hm
          refine lv_ldc2 hx hb hown (hts _ (List.mem_cons_of_mem _ wi_31_13)) dX10_addressOf_88 ?_
          refine lv_goto (tgt := 104) hx hb dX10_addressOf_91 (by decide) ?_
          subst hm
          exact eb_lret X hw rfl rfl rfl dX10_addressOf_104
    · have hm := (if_pos h2).symm.trans hm
      refine lv_aload_n hx hb dX10_addressOf_40 rfl (lv_at hl 0 rfl) ?_
      refine lv_bipush (v := 6) hx hb dX10_addressOf_41 (by decide) ?_
      obtain ⟨z5, qz5⟩ : ∃ t : Int32, t = m_X10_byteOf σ 6 := ⟨_, rfl⟩
      have hm : (if z5 = 0 then 0 else (fun (z7 : Int64) => z7) (m_X10_napot (σ.1 10 (σ.1 0 8).toNatClampNeg) (σ.1 11 (σ.1 0 8).toNatClampNeg))) = mm := by rw [qz5]; exact hm
      have hc : eb_M l yX10_byteOf (Cond.code yX10_byteOf cX10_byteOf 2 (some .int) :: wsL_law) 1 21 D 18 cy rL ad σ [.ref (ad 0), .int 6] (some (.int z5)) σ := by rw [qz5]; exact c_X10_byteOf l D cy ad σ 6 hj_ (vp_in_iff.mpr ⟨by decide, by decide⟩)
      refine eb_callV (n := 1) (as := [.int 6]) (rest := []) X hw hl.1 0 hc (by decide) ⟨rfl, rfl, rfl⟩ (eb_goodV wi_31_15 wi_31_16 wi_31_17 wi_1_5 wi_31_18) rfl (by decide +kernel) ⟨by decide, by decide⟩ rfl rfl (Nat.le_of_ble_eq_true rfl) dX10_addressOf_43 ⟨by decide, by decide⟩ (st' := [.int z5]) rfl (fun H locs hw => ?_)
      refine lv_if_ne (tgt := 53) hx hb dX10_addressOf_46 (by decide) (fun h6 => ?_) (fun h6 => ?_)
      · have hm := (if_neg h6).symm.trans hm
        refine lv_aload_n hx hb dX10_addressOf_53 rfl (lv_at hl 0 rfl) ?_
        refine eb_get (T := TX10) X hw 0 26 (by decide) ⟨rfl, rfl, rfl⟩ (by decide) (fun _ h => List.mem_cons_of_mem _ (inlX10 _ h)) (List.mem_cons_of_mem _ wi_5_20) (v := .ref (ad 10)) rfl dX10_addressOf_54 ?_
        refine lv_aload_n hx hb dX10_addressOf_57 rfl (lv_at hl 0 rfl) ?_
        refine eb_get (T := TX10) X hw 0 8 (by decide) ⟨rfl, rfl, rfl⟩ (by decide) (fun _ h => List.mem_cons_of_mem _ (inlX10 _ h)) (List.mem_cons_of_mem _ wi_5_13) (v := .int (σ.1 0 8)) rfl dX10_addressOf_58 ?_
        refine eb_iald (n := 6) X hw 10 (by decide) rfl rfl (rJ_in hj_ (l_X10_byteOf6 (by rw [← qz5]; exact h6))) dX10_addressOf_61 ?_
        refine lv_aload_n hx hb dX10_addressOf_62 rfl (lv_at hl 0 rfl) ?_
        refine eb_get (T := TX10) X hw 0 27 (by decide) ⟨rfl, rfl, rfl⟩ (by decide) (fun _ h => List.mem_cons_of_mem _ (inlX10 _ h)) (List.mem_cons_of_mem _ wi_5_21) (v := .ref (ad 11)) rfl dX10_addressOf_63 ?_
        refine lv_aload_n hx hb dX10_addressOf_66 rfl (lv_at hl 0 rfl) ?_
        refine eb_get (T := TX10) X hw 0 8 (by decide) ⟨rfl, rfl, rfl⟩ (by decide) (fun _ h => List.mem_cons_of_mem _ (inlX10 _ h)) (List.mem_cons_of_mem _ wi_5_13) (v := .int (σ.1 0 8)) rfl dX10_addressOf_67 ?_
        refine eb_iald (n := 6) X hw 11 (by decide) rfl rfl (rJ_in hj_ (l_X10_byteOf6 (by rw [← qz5]; exact h6))) dX10_addressOf_70 ?_
        obtain ⟨z7, qz7⟩ : ∃ t : Int64, t = m_X10_napot (σ.1 10 (σ.1 0 8).toNatClampNeg) (σ.1 11 (σ.1 0 8).toNatClampNeg) := ⟨_, rfl⟩
        have hm : z7 = mm := by rw [qz7]; exact hm
        have hc : eb_M l yX10_napot (Cond.code yX10_napot cX10_napot 2 (some .long) :: wsL_law) 0 0 D 18 cy rL ad σ [.int (σ.1 10 (σ.1 0 8).toNatClampNeg), .int (σ.1 11 (σ.1 0 8).toNatClampNeg)] (some (.long z7)) σ := by rw [qz7]; exact c_X10_napot l D cy ad σ (σ.1 10 (σ.1 0 8).toNatClampNeg) (σ.1 11 (σ.1 0 8).toNatClampNeg)
        refine eb_callS (n := 2) X hw hl.1 (rest := []) hc (eb_goodS wi_31_23 wi_32_0 wi_1_5 wi_32_1) rfl (by decide +kernel) ⟨by decide, by decide⟩ rfl rfl (Nat.le_of_ble_eq_true rfl) dX10_addressOf_71 ⟨by decide, by decide⟩ (st' := [.long z7]) rfl (fun H locs hw => ?_)
        subst hm
        exact eb_lret X hw rfl rfl rfl dX10_addressOf_74
      · have hm := (if_pos h6).symm.trans hm
        refine lv_lconst (v := 0) hx hb dX10_addressOf_49 (by decide) ?_
        refine lv_goto (tgt := 74) hx hb dX10_addressOf_50 (by decide) ?_
        subst hm
        exact eb_lret X hw rfl rfl rfl dX10_addressOf_74
  · have hm := (if_neg h1).symm.trans hm
    refine lv_aload_n hx hb dX10_addressOf_6 rfl (lv_at hl 0 rfl) ?_
    refine lv_iload_n hx hb dX10_addressOf_7 rfl (lv_at hl 1 rfl) ?_
    obtain ⟨z8, qz8⟩ : ∃ t : Bool, t = m_X10_isLive σ a0 := ⟨_, rfl⟩
    have hm : (if (eb_b z8) = 0 then 0 else (fun (z10 : Int64) => z10) (m_X10_napot (σ.1 7 a0.toNatClampNeg) (σ.1 8 a0.toNatClampNeg))) = mm := by rw [qz8]; exact hm
    have hc : eb_M l yX10_isLive (Cond.code yX10_isLive cX10_isLive 2 (some .boolean) :: wsL_law) 0 0 D 18 cy rL ad σ [.ref (ad 0), .int a0] (some (.int (eb_b z8))) σ := by rw [qz8]; exact c_X10_isLive l D cy ad σ a0 (eb_in_lt h0_ (eb_nle h1) (by decide))
    refine eb_callV (n := 1) (as := [.int a0]) (rest := []) X hw hl.1 0 hc (by decide) ⟨rfl, rfl, rfl⟩ (eb_goodV wi_9_22 wi_9_23 wi_10_0 wi_1_5 wi_10_1) rfl (by decide +kernel) ⟨by decide, by decide⟩ rfl rfl (Nat.le_of_ble_eq_true rfl) dX10_addressOf_8 ⟨by decide, by decide⟩ (st' := [.int (eb_b z8)]) rfl (fun H locs hw => ?_)
    refine lv_if_eq (tgt := 32) hx hb dX10_addressOf_11 (by decide) (fun h9 => ?_) (fun h9 => ?_)
    · have hm := (if_pos h9).symm.trans hm
      refine lv_lconst (v := 0) hx hb dX10_addressOf_32 (by decide) ?_
      subst hm
      exact eb_lret X hw rfl rfl rfl dX10_addressOf_33
    · have hm := (if_neg h9).symm.trans hm
      refine lv_aload_n hx hb dX10_addressOf_14 rfl (lv_at hl 0 rfl) ?_
      refine eb_get (T := TX10) X hw 0 23 (by decide) ⟨rfl, rfl, rfl⟩ (by decide) (fun _ h => List.mem_cons_of_mem _ (inlX10 _ h)) (List.mem_cons_of_mem _ wi_5_17) (v := .ref (ad 7)) rfl dX10_addressOf_15 ?_
      refine lv_iload_n hx hb dX10_addressOf_18 rfl (lv_at hl 1 rfl) ?_
      refine eb_iald (n := 6) X hw 7 (by decide) rfl rfl (eb_in_lt h0_ (eb_nle h1) (by decide)) dX10_addressOf_19 ?_
      refine lv_aload_n hx hb dX10_addressOf_20 rfl (lv_at hl 0 rfl) ?_
      refine eb_get (T := TX10) X hw 0 24 (by decide) ⟨rfl, rfl, rfl⟩ (by decide) (fun _ h => List.mem_cons_of_mem _ (inlX10 _ h)) (List.mem_cons_of_mem _ wi_5_18) (v := .ref (ad 8)) rfl dX10_addressOf_21 ?_
      refine lv_iload_n hx hb dX10_addressOf_24 rfl (lv_at hl 1 rfl) ?_
      refine eb_iald (n := 6) X hw 8 (by decide) rfl rfl (eb_in_lt h0_ (eb_nle h1) (by decide)) dX10_addressOf_25 ?_
      obtain ⟨z10, qz10⟩ : ∃ t : Int64, t = m_X10_napot (σ.1 7 a0.toNatClampNeg) (σ.1 8 a0.toNatClampNeg) := ⟨_, rfl⟩
      have hm : z10 = mm := by rw [qz10]; exact hm
      have hc : eb_M l yX10_napot (Cond.code yX10_napot cX10_napot 2 (some .long) :: wsL_law) 0 0 D 18 cy rL ad σ [.int (σ.1 7 a0.toNatClampNeg), .int (σ.1 8 a0.toNatClampNeg)] (some (.long z10)) σ := by rw [qz10]; exact c_X10_napot l D cy ad σ (σ.1 7 a0.toNatClampNeg) (σ.1 8 a0.toNatClampNeg)
      refine eb_callS (n := 2) X hw hl.1 (rest := []) hc (eb_goodS wi_31_23 wi_32_0 wi_1_5 wi_32_1) rfl (by decide +kernel) ⟨by decide, by decide⟩ rfl rfl (Nat.le_of_ble_eq_true rfl) dX10_addressOf_26 ⟨by decide, by decide⟩ (st' := [.long z10]) rfl (fun H locs hw => ?_)
      refine lv_goto (tgt := 33) hx hb dX10_addressOf_29 (by decide) ?_
      subst hm
      exact eb_lret X hw rfl rfl rfl dX10_addressOf_33

set_option maxHeartbeats 4000000 in
set_option maxRecDepth 100000 in
theorem k_X10_bytes_6 {p : Program} {l : Launch} {e : Env} {s : State} {m : MethodId} {args : Array Value} {below : List Frame} {meth : Method} {c : Code} {A : Nat → Prop} {D : va_G} {cy : Nat → ClassId} {ad : Nat → Nat} (X : eb_X p s m args meth c cX10_bytes 5 RX10 (Cond.code yX10_bytes cX10_bytes 5 (some .long) :: wsL_law) (some .long) D cy A)   : ∀ (n : Nat) (σ : eb_St) (v1 : Int32) (v2 : Int64) (v4 : Int32) (hj_ : rJ σ) (i0_ : v1 = 0 ∨ v1 = 8) (i1_ : v4.toInt ≤ 7) (hn : (v4.toInt + 1).toNat < n) {H : Heap} {locs : List Loc} {ls : Array Slot} {mm : Int64} (_ : (m_X10_bytes_6  n σ v1 v2 v4) = mm) (hw : eb_H D 18 cy rL ad A s.heap σ H locs) (hl : lv_has ls 5 [(0, .ref (ad 0)), (1, .int v1), (2, .long v2), (4, .int v4)]), W p l e ({ frames := 2, cells := 0, slots := 0, locals := 42 } : Room) s m args below meth c H locs 0 0 (MQ below (eb_Q D 18 cy rL ad A (some (.long mm)) σ) args s 0 0 A) (F0 m 6 ls []) := by
  have hx := X.1.1
  have hb := X.1.2.1
  have hown := X.1.2.2.2.1
  have hts := X.1.2.2.2.2
  intro n
  induction n with
  | zero => intro σ v1 v2 v4 hj_ i0_ i1_ hn; exact absurd hn (Nat.not_lt_zero _)
  | succ n ih =>
    intro σ v1 v2 v4 hj_ i0_ i1_ hn H locs ls mm hm hw hl
    have hm : (if v4 < 0 then v2 else (fun (z2 : Int32) => (fun (x3 : Int64) => (fun (x4 : Int32) => m_X10_bytes_6  n σ v1 x3 x4) (v4 + (-1))) ((eb_lshl v2 8) ||| z2.toInt64)) (m_X10_byteOf σ (v1 + v4))) = mm := hm
    refine lv_iload hx hb dX10_bytes_6 (lv_at hl 3 rfl) ?_
    refine lv_if_lt (tgt := 32) hx hb dX10_bytes_8 (by decide) (fun h1 => ?_) (fun h1 => ?_)
    · have hm := (if_pos h1).symm.trans hm
      refine lv_lload_n hx hb dX10_bytes_32 rfl (lv_at hl 2 rfl) ?_
      subst hm
      exact eb_lret X hw rfl rfl rfl dX10_bytes_33
    · have hm := (if_neg h1).symm.trans hm
      refine lv_lload_n hx hb dX10_bytes_11 rfl (lv_at hl 2 rfl) ?_
      refine lv_bipush (v := 8) hx hb dX10_bytes_12 (by decide) ?_
      refine lv_lshl (v := eb_lshl v2 8) hx hb dX10_bytes_14 rfl ?_
      refine lv_aload_n hx hb dX10_bytes_15 rfl (lv_at hl 0 rfl) ?_
      refine lv_iload_n hx hb dX10_bytes_16 rfl (lv_at hl 1 rfl) ?_
      refine lv_iload hx hb dX10_bytes_17 (lv_at hl 3 rfl) ?_
      refine lv_iadd hx hb dX10_bytes_19 ?_
      obtain ⟨z2, qz2⟩ : ∃ t : Int32, t = m_X10_byteOf σ (v1 + v4) := ⟨_, rfl⟩
      have hm : (fun (x3 : Int64) => (fun (x4 : Int32) => m_X10_bytes_6  n σ v1 x3 x4) (v4 + (-1))) ((eb_lshl v2 8) ||| z2.toInt64) = mm := by rw [qz2]; exact hm
      have hc : eb_M l yX10_byteOf (Cond.code yX10_byteOf cX10_byteOf 2 (some .int) :: wsL_law) 1 21 D 18 cy rL ad σ [.ref (ad 0), .int (v1 + v4)] (some (.int z2)) σ := by rw [qz2]; exact c_X10_byteOf l D cy ad σ (v1 + v4) hj_ (eb_in_bytes i0_ (eb_nlt h1) i1_)
      refine eb_callV (n := 1) (as := [.int (v1 + v4)]) (rest := [.long (eb_lshl v2 8)]) X hw hl.1 0 hc (by decide) ⟨rfl, rfl, rfl⟩ (eb_goodV wi_31_15 wi_31_16 wi_31_17 wi_1_5 wi_31_18) rfl (by decide +kernel) ⟨by decide, by decide⟩ rfl rfl (Nat.le_of_ble_eq_true rfl) dX10_bytes_20 ⟨by decide, by decide⟩ (st' := [.int z2, .long (eb_lshl v2 8)]) rfl (fun H locs hw => ?_)
      refine lv_i2l (v := z2.toInt64) hx hb dX10_bytes_23 rfl ?_
      refine lv_lor hx hb dX10_bytes_24 ?_
      refine lv_topl (fun x3 ex3 => ?_)
      have hm : (fun (x4 : Int32) => m_X10_bytes_6  n σ v1 x3 x4) (v4 + (-1)) = mm := by rw [ex3]; exact hm
      refine lv_lstore_n (lv' := [(2, .long x3), (0, .ref (ad 0)), (1, .int v1), (4, .int v4)]) hx hb dX10_bytes_25 rfl hl (by decide) rfl (fun ls hl => ?_)
      obtain ⟨x4, ex4⟩ : ∃ z : Int32, z = v4 + (-1) := ⟨_, rfl⟩
      have hm : m_X10_bytes_6  n σ v1 x3 x4 = mm := by rw [ex4]; exact hm
      refine lv_iinc (v := x4) (lv' := [(4, .int x4), (2, .long x3), (0, .ref (ad 0)), (1, .int v1)]) hx hb dX10_bytes_26 hl (k := 3) rfl (by rw [ex4]; exact congrArg (v4 + ·) (by decide)) (by decide) rfl (fun ls hl => ?_)
      refine lv_goto (tgt := 6) hx hb dX10_bytes_29 (by decide) ?_
      exact ih σ v1 x3 x4 hj_ i0_ (by have q := (eb_dn (eb_nlt h1) ex4 hn).2.2; omega) (eb_dn (eb_nlt h1) ex4 hn).2.1 hm hw (lv_sub hl [2, 3, 1, 0] rfl)
set_option maxHeartbeats 4000000 in
set_option maxRecDepth 100000 in
theorem c_X10_bytes (l : Launch) (D : va_G) (cy : Nat → ClassId) (ad : Nat → Nat) (σ : eb_St) (a0 : Int32) (hj_ : rJ σ) (h0_ : a0 = 0 ∨ a0 = 8) : eb_M l yX10_bytes (Cond.code yX10_bytes cX10_bytes 5 (some .long) :: wsL_law) 2 42 D 18 cy rL ad σ [.ref (ad 0), .int a0] (some (.long (m_X10_bytes σ a0))) σ := by
  refine eb_start (own := RX10) (by decide) rfl rfl (Nat.le_of_ble_eq_true rfl) ?_
  intro p e s m args below meth c A ls X hw hl
  have hl : lv_has ls 5 [(0, .ref (ad 0)), (1, .int a0)] := hl
  have hx := X.1.1
  have hb := X.1.2.1
  have hown := X.1.2.2.2.1
  have hts := X.1.2.2.2.2
  generalize hm : m_X10_bytes σ a0 = mm
  have hm : m_X10_bytes_6  (((7 : Int32).toInt + 1).toNat + 1) σ a0 0 7 = mm := hm
  refine lv_lconst (v := 0) hx hb dX10_bytes_0 (by decide) ?_
  refine lv_lstore_n (lv' := [(2, .long 0), (0, .ref (ad 0)), (1, .int a0)]) hx hb dX10_bytes_1 rfl hl (by decide) rfl (fun ls hl => ?_)
  refine lv_bipush (v := 7) hx hb dX10_bytes_2 (by decide) ?_
  refine lv_istore (lv' := [(4, .int 7), (2, .long 0), (0, .ref (ad 0)), (1, .int a0)]) hx hb dX10_bytes_4 hl (by decide) rfl (fun ls hl => ?_)
  exact k_X10_bytes_6 X   (((7 : Int32).toInt + 1).toNat + 1) σ a0 0 7 hj_ h0_ (by decide) (Nat.lt_succ_self _) hm hw (lv_sub hl [2, 3, 1, 0] rfl)

set_option maxHeartbeats 4000000 in
set_option maxRecDepth 100000 in
theorem c_X10_pmp (l : Launch) (D : va_G) (cy : Nat → ClassId) (ad : Nat → Nat) (σ : eb_St) (a0 : Int32) (a1 : Int32) (hj_ : rJ σ) : eb_M l yX10_pmp (Cond.code yX10_pmp cX10_pmp 3 (some .long) :: wsL_law) 3 63 D 18 cy rL ad σ [.ref (ad 0), .int a0, .int a1] (some (.long (m_X10_pmp σ a0 a1))) σ := by
  refine eb_start (own := RX10) (by decide) rfl rfl (Nat.le_of_ble_eq_true rfl) ?_
  intro p e s m args below meth c A ls X hw hl
  have hl : lv_has ls 3 [(0, .ref (ad 0)), (1, .int a0), (2, .int a1)] := hl
  have hx := X.1.1
  have hb := X.1.2.1
  have hown := X.1.2.2.2.1
  have hts := X.1.2.2.2.2
  generalize hm : m_X10_pmp σ a0 a1 = mm
  have hm : (if a0 < 0 then 0 else (if a0 ≤ 15 then (if a1 = 0 then (fun (z6 : Int32) => z6.toInt64) (m_X10_byteOf σ a0) else (if a1 = 1 then (fun (z5 : Int64) => z5) (m_X10_addressOf σ a0) else 0)) else 0)) = mm := hm
  refine lv_iload_n hx hb dX10_pmp_0 rfl (lv_at hl 1 rfl) ?_
  refine lv_if_lt (tgt := 10) hx hb dX10_pmp_1 (by decide) (fun h1 => ?_) (fun h1 => ?_)
  · have hm := (if_pos h1).symm.trans hm
    refine lv_lconst (v := 0) hx hb dX10_pmp_10 (by decide) ?_
    subst hm
    exact eb_lret X hw rfl rfl rfl dX10_pmp_11
  · have hm := (if_neg h1).symm.trans hm
    refine lv_iload_n hx hb dX10_pmp_4 rfl (lv_at hl 1 rfl) ?_
    refine lv_bipush (v := 15) hx hb dX10_pmp_5 (by decide) ?_
    refine lv_icmp_le (tgt := 12) hx hb dX10_pmp_7 (by decide) (fun h2 => ?_) (fun h2 => ?_)
    · have hm := (if_pos h2).symm.trans hm
      refine lv_iload_n hx hb dX10_pmp_12 rfl (lv_at hl 2 rfl) ?_
      refine lv_if_ne (tgt := 25) hx hb dX10_pmp_13 (by decide) (fun h3 => ?_) (fun h3 => ?_)
      · have hm := (if_neg h3).symm.trans hm
        refine lv_iload_n hx hb dX10_pmp_25 rfl (lv_at hl 2 rfl) ?_
        refine lv_iconst (v := 1) hx hb dX10_pmp_26 (by decide) ?_
        refine lv_icmp_ne (tgt := 38) hx hb dX10_pmp_27 (by decide) (fun h4 => ?_) (fun h4 => ?_)
        · have hm := (if_neg h4).symm.trans hm
          refine lv_lconst (v := 0) hx hb dX10_pmp_38 (by decide) ?_
          subst hm
          exact eb_lret X hw rfl rfl rfl dX10_pmp_39
        · have hm := (if_pos h4).symm.trans hm
          refine lv_aload_n hx hb dX10_pmp_30 rfl (lv_at hl 0 rfl) ?_
          refine lv_iload_n hx hb dX10_pmp_31 rfl (lv_at hl 1 rfl) ?_
          obtain ⟨z5, qz5⟩ : ∃ t : Int64, t = m_X10_addressOf σ a0 := ⟨_, rfl⟩
          have hm : z5 = mm := by rw [qz5]; exact hm
          have hc : eb_M l yX10_addressOf (Cond.code yX10_addressOf cX10_addressOf 2 (some .long) :: wsL_law) 2 42 D 18 cy rL ad σ [.ref (ad 0), .int a0] (some (.long z5)) σ := by rw [qz5]; exact c_X10_addressOf l D cy ad σ a0 hj_ (eb_rngl (eb_nlt h1) h2 (by decide) (by decide))
          refine eb_callV (n := 1) (as := [.int a0]) (rest := []) X hw hl.1 0 hc (by decide) ⟨rfl, rfl, rfl⟩ (eb_goodV wi_31_19 wi_31_20 wi_31_21 wi_1_5 wi_31_22) rfl (by decide +kernel) ⟨by decide, by decide⟩ rfl rfl (Nat.le_of_ble_eq_true rfl) dX10_pmp_32 ⟨by decide, by decide⟩ (st' := [.long z5]) rfl (fun H locs hw => ?_)
          refine lv_goto (tgt := 39) hx hb dX10_pmp_35 (by decide) ?_
          subst hm
          exact eb_lret X hw rfl rfl rfl dX10_pmp_39
      · have hm := (if_pos h3).symm.trans hm
        refine lv_aload_n hx hb dX10_pmp_16 rfl (lv_at hl 0 rfl) ?_
        refine lv_iload_n hx hb dX10_pmp_17 rfl (lv_at hl 1 rfl) ?_
        obtain ⟨z6, qz6⟩ : ∃ t : Int32, t = m_X10_byteOf σ a0 := ⟨_, rfl⟩
        have hm : z6.toInt64 = mm := by rw [qz6]; exact hm
        have hc : eb_M l yX10_byteOf (Cond.code yX10_byteOf cX10_byteOf 2 (some .int) :: wsL_law) 1 21 D 18 cy rL ad σ [.ref (ad 0), .int a0] (some (.int z6)) σ := by rw [qz6]; exact c_X10_byteOf l D cy ad σ a0 hj_ (eb_rngl (eb_nlt h1) h2 (by decide) (by decide))
        refine eb_callV (n := 1) (as := [.int a0]) (rest := []) X hw hl.1 0 hc (by decide) ⟨rfl, rfl, rfl⟩ (eb_goodV wi_31_15 wi_31_16 wi_31_17 wi_1_5 wi_31_18) rfl (by decide +kernel) ⟨by decide, by decide⟩ rfl rfl (Nat.le_of_ble_eq_true rfl) dX10_pmp_18 ⟨by decide, by decide⟩ (st' := [.int z6]) rfl (fun H locs hw => ?_)
        refine lv_i2l (v := z6.toInt64) hx hb dX10_pmp_21 rfl ?_
        refine lv_goto (tgt := 39) hx hb dX10_pmp_22 (by decide) ?_
        subst hm
        exact eb_lret X hw rfl rfl rfl dX10_pmp_39
    · have hm := (if_neg h2).symm.trans hm
      refine lv_lconst (v := 0) hx hb dX10_pmp_10 (by decide) ?_
      subst hm
      exact eb_lret X hw rfl rfl rfl dX10_pmp_11
