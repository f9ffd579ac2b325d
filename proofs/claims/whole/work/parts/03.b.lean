def m_X0_basic (a0 : Int32) (a1 : Int32) (a2 : Int64) (a3 : Int64) : Int64 := (fun (x1 : Int32) => (if a0 = 0 then (if a1 = 0 then a2 + a3 else a2 - a3) else if a0 = 1 then eb_lshl a2 x1 else if a0 = 2 then (if a3 ≤ a2 then 0 else 1) else if a0 = 3 then (fun (z8 : Int32) => (if 0 ≤ z8 then 0 else 1)) (m_J13_compareUnsigned_74951 a2 a3) else if a0 = 4 then a2 ^^^ a3 else if a0 = 5 then (if a1 = 0 then eb_lushr a2 x1 else eb_lshr a2 x1) else if a0 = 6 then a2 ||| a3 else a2 &&& a3)) (a3.toInt32 &&& 63)

def m_X0_basicWord (a0 : Int32) (a1 : Int32) (a2 : Int32) (a3 : Int32) : Int64 := (fun (x1 : Int32) => (if a0 = 0 then (if a1 = 0 then (a2 + a3).toInt64 else (a2 - a3).toInt64) else if a0 = 1 then (a2 <<< (x1 &&& 31)).toInt64 else (if a1 = 0 then (eb_iushr a2 x1).toInt64 else (a2 >>> (x1 &&& 31)).toInt64))) (a3 &&& 31)

def m_X0_multiplied (a0 : Int32) (a1 : Int64) (a2 : Int64) : Int64 := (if a0 = 0 then a1 * a2 else if a0 = 1 then (fun (z3 : Int64) => z3) (m_J9_multiplyHigh_f86c9 a1 a2) else if a0 = 2 then (fun (z5 : Int64) => z5 + (a1 &&& (eb_lshr a2 63))) (m_J9_multiplyHigh_f86c9 a1 a2) else (fun (z6 : Int64) => (z6 + (a1 &&& (eb_lshr a2 63))) + (a2 &&& (eb_lshr a1 63))) (m_J9_multiplyHigh_f86c9 a1 a2))

def m_X0_multipliedWord_104  (v1 : Int32) (v2 : Int32) : Int64 := (if v2 = 0 then v1.toInt64 else (((v1.toInt64 &&& 4294967295) - (v1.toInt64 &&& 4294967295) / (v2.toInt64 &&& 4294967295) * (v2.toInt64 &&& 4294967295)).toInt32).toInt64)
def m_X0_multipliedWord (a0 : Int32) (a1 : Int32) (a2 : Int32) : Int64 := (if a0 = 0 then (a1 * a2).toInt64 else if a0 = 1 then m_X0_multipliedWord_104  a1 a2 else if a0 = 2 then m_X0_multipliedWord_104  a1 a2 else if a0 = 3 then m_X0_multipliedWord_104  a1 a2 else if a0 = 4 then (if a2 = 0 then (-1) else (a1 / a2).toInt64) else if a0 = 5 then (if a2 = 0 then (-1) else (((a1.toInt64 &&& 4294967295) / (a2.toInt64 &&& 4294967295)).toInt32).toInt64) else if a0 = 6 then (if a2 = 0 then a1.toInt64 else (a1 - a1 / a2 * a2).toInt64) else m_X0_multipliedWord_104  a1 a2)

def m_X0_quotientWithoutSign (a0 : Int64) (a1 : Int64) : Int64 := (if a1 = 0 then (-1) else (if (0 : Int64) ≤ a1 then (fun (x3 : Int64) => (fun (x4 : Int64) => (fun (z5 : Int32) => (if 0 ≤ z5 then x3 + 1 else x3)) (m_J13_compareUnsigned_74951 x4 a1)) (a0 - (x3 * a1))) (eb_lshl ((eb_lushr a0 1) / a1) 1) else (fun (z7 : Int32) => (if 0 ≤ z7 then 1 else 0)) (m_J13_compareUnsigned_74951 a0 a1)))

def m_X0_divided (a0 : Int32) (a1 : Int64) (a2 : Int64) : Int64 := (if a0 = 4 then (if a2 = 0 then (-1) else a1 / a2) else if a0 = 5 then (fun (z4 : Int64) => z4) (m_X0_quotientWithoutSign a1 a2) else if a0 = 6 then (if a2 = 0 then a1 else a1 - a1 / a2 * a2) else (if a2 = 0 then a1 else (fun (z8 : Int64) => a1 - (z8 * a2)) (m_X0_quotientWithoutSign a1 a2)))

def m_X0_holds_106  (v1 : Int64) (v3 : Int64) : Bool := (fun (z14 : Int32) => (if z14 < 0 then false else true)) (m_J13_compareUnsigned_74951 v1 v3)
def m_X0_holds (a0 : Int32) (a1 : Int64) (a2 : Int64) : Bool := (if a0 = 0 then (if a1 = a2 then true else false) else if a0 = 1 then (if a1 = a2 then false else true) else if a0 = 2 then m_X0_holds_106  a1 a2 else if a0 = 3 then m_X0_holds_106  a1 a2 else if a0 = 4 then (if a2 ≤ a1 then false else true) else if a0 = 5 then (if a1 < a2 then false else true) else if a0 = 6 then (fun (z12 : Int32) => (if 0 ≤ z12 then false else true)) (m_J13_compareUnsigned_74951 a1 a2) else m_X0_holds_106  a1 a2)

def m_X6_clear (σ : eb_St)  : eb_St := (fun (z1 : eb_St) => (fun (z2 : eb_St) => (fun (z3 : eb_St) => (fun (z4 : eb_St) => z4) (m_J7_fill_53178 z3 7 16 0)) (m_J7_fill_53178 z2 6 16 0)) (m_J7_fill_d0a16 z1 5 16 0)) (m_J7_fill_53178 σ 4 16 0)

def m_X6_napot (a0 : Int32) (a1 : Int32) : Int64 := ((a0 / 4) ||| ((a1 / 8) - 1)).toInt64

def m_X6_measureOut_154  (σ : eb_St) (v1 : Int32) (v4 : Int64) (v6 : Int64) (s0 : Int32) : eb_St := (if s0 = 0 then (if s0 = 0 then eb_pI (eb_pI σ 6 v1.toNatClampNeg 0) 7 v1.toNatClampNeg 0 else (if (16384 : Int64) ≤ v6 then eb_pI (eb_pI σ 6 v1.toNatClampNeg 0) 7 v1.toNatClampNeg 65536 else eb_pI (eb_pI σ 6 v1.toNatClampNeg 0) 7 v1.toNatClampNeg (v6.toInt32 * 4))) else (if s0 = 0 then eb_pI (eb_pI σ 6 v1.toNatClampNeg (v4.toInt32 * 4)) 7 v1.toNatClampNeg 0 else (if (16384 : Int64) ≤ v6 then eb_pI (eb_pI σ 6 v1.toNatClampNeg (v4.toInt32 * 4)) 7 v1.toNatClampNeg 65536 else eb_pI (eb_pI σ 6 v1.toNatClampNeg (v4.toInt32 * 4)) 7 v1.toNatClampNeg (v6.toInt32 * 4))))
def m_X6_measureOut_153  (σ : eb_St) (v1 : Int32) (v4 : Int64) (v6 : Int64) : eb_St := m_X6_measureOut_154  σ v1 v4 v6 0
def m_X6_measureOut_132  (σ : eb_St) (v1 : Int32) (v4 : Int64) (v6 : Int64) : eb_St := (if v6 ≤ v4 then m_X6_measureOut_153  σ v1 v4 v6 else (if (16384 : Int64) ≤ v4 then m_X6_measureOut_153  σ v1 v4 v6 else m_X6_measureOut_154  σ v1 v4 v6 1))
def m_X6_measureOut_84  (σ : eb_St) (v1 : Int32) (v2 : Int64) (s0 : Int64) : eb_St := m_X6_measureOut_132  σ v1 s0 v2
def m_X6_measureOut (σ : eb_St) (a0 : Int32) : eb_St := (if a0 < 0 then σ else (if a0 < 16 then (fun (x3 : Int64) => (if ((σ.1 4 a0.toNatClampNeg) &&& 24) = 8 then (if a0 = 0 then m_X6_measureOut_84  σ a0 x3 0 else m_X6_measureOut_84  σ a0 x3 (σ.2 5 (a0 - 1).toNatClampNeg)) else if ((σ.1 4 a0.toNatClampNeg) &&& 24) = 16 then (fun (x7 : Int64) => m_X6_measureOut_132  σ a0 x3 x7) (x3 + 1) else if ((σ.1 4 a0.toNatClampNeg) &&& 24) = 24 then (fun (x9 : Int64) => (fun (x10 : Int64) => (fun (x11 : Int64) => m_X6_measureOut_132  σ a0 x10 x11) ((x10 + x9) + 1)) (x3 &&& (x9 ^^^ (-1)))) (x3 ^^^ (x3 + 1)) else m_X6_measureOut_132  σ a0 0 0)) (σ.2 5 a0.toNatClampNeg) else σ))

def m_X6_put (σ : eb_St) (a0 : Int32) (a1 : Int32) (a2 : Int64) : eb_St := (if a0 < 0 then σ else (if (16 : Int32) ≤ a0 then σ else (fun (z3 : eb_St) => (fun (z4 : eb_St) => z4) (m_X6_measureOut z3 (a0 + 1))) (m_X6_measureOut (eb_pJ (eb_pI σ 4 a0.toNatClampNeg a1) 5 a0.toNatClampNeg a2) a0)))

def m_X6_legal (a0 : Int32) : Int32 := (fun (x1 : Int32) => (if (x1 &&& 1) = 0 then x1 &&& (-3) else x1)) (a0 &&& 159)

def m_X6_isAddressLocked (σ : eb_St) (a0 : Int32) : Bool := (if ((σ.1 4 a0.toNatClampNeg) &&& 128) = 0 then (if (16 : Int32) ≤ (a0 + 1) then false else (if ((σ.1 4 (a0 + 1).toNatClampNeg) &&& 152) = 136 then true else false)) else true)

def m_X6_writeAddress (σ : eb_St) (a0 : Int32) (a1 : Int64) : eb_St := (if a0 < 8 then σ else (if (16 : Int32) ≤ a0 then σ else (fun (z3 : Bool) => (if (eb_b z3) = 0 then (fun (z5 : eb_St) => (fun (z6 : eb_St) => z6) (m_X6_measureOut z5 (a0 + 1))) (m_X6_measureOut (eb_pJ σ 5 a0.toNatClampNeg (a1 &&& 18014398509481983)) a0) else σ)) (m_X6_isAddressLocked σ a0)))

def m_X6_writeConfigs_3  : Nat → eb_St → Int64 → Int32 → eb_St
  | 0, σ, _, _ => σ
  | n + 1, σ, v1, v3 => (if (16 : Int32) ≤ v3 then σ else (if ((σ.1 4 v3.toNatClampNeg) &&& 128) = 0 then (fun (z4 : Int32) => (fun (z5 : eb_St) => (fun (x6 : Int32) => m_X6_writeConfigs_3  n z5 v1 x6) (v3 + 1)) (m_X6_measureOut (eb_pI σ 4 v3.toNatClampNeg z4) v3)) (m_X6_legal ((eb_lushr v1 ((v3 - 8) * 8)).toInt32)) else (fun (x3 : Int32) => m_X6_writeConfigs_3  n σ v1 x3) (v3 + 1)))
def m_X6_writeConfigs (σ : eb_St) (a0 : Int64) : eb_St := m_X6_writeConfigs_3  17 σ a0 8

def m_X6_readConfigs_13  : Nat → eb_St → Int32 → Int64 → Int32 → Int64
  | 0, _, _, _, _ => 0
  | n + 1, σ, v1, v2, v4 => (if v4 < v1 then v2 else (if v4 < 0 then v2 else (fun (x4 : Int64) => (fun (x5 : Int32) => m_X6_readConfigs_13  n σ v1 x4 x5) (v4 + (-1))) ((eb_lshl v2 8) ||| ((σ.1 4 v4.toNatClampNeg).toInt64))))
def m_X6_readConfigs (σ : eb_St) (a0 : Int32) : Int64 := (fun (x1 : Int32) => m_X6_readConfigs_13  ((x1.toInt + 1).toNat + 1) σ a0 0 x1) (if (15 : Int32) < (a0 + 7) then 15 else (a0 + 7))

def m_X6_decider_2  : Nat → eb_St → Int32 → Int32 → Int32 → Int32
  | 0, _, _, _, _ => 0
  | n + 1, σ, v1, v2, v3 => (if (16 : Int32) ≤ v3 then (-1) else (if (σ.1 7 v3.toNatClampNeg) ≤ v1 then (fun (x3 : Int32) => m_X6_decider_2  n σ v1 v2 x3) (v3 + 1) else (if v2 ≤ (σ.1 6 v3.toNatClampNeg) then (fun (x5 : Int32) => m_X6_decider_2  n σ v1 v2 x5) (v3 + 1) else v3)))
def m_X6_decider (σ : eb_St) (a0 : Int32) (a1 : Int32) : Int32 := m_X6_decider_2  17 σ a0 a1 0
theorem l_X6_decider_2 : ∀ (n : Nat) (σ : eb_St) (a b i : Int32), 0 ≤ i.toInt → (m_X6_decider_2 n σ a b i = -1 ∨ vp_in (m_X6_decider_2 n σ a b i) 16) := by
  intro n
  induction n with
  | zero => intro σ a b i _; exact Or.inr (eb_in0 (by decide))
  | succ n ih =>
    intro σ a b i hi
    have hs : ¬ (16 : Int32) ≤ i → 0 ≤ (i + 1).toInt := fun h => eb_next hi (eb_nle h)
    unfold m_X6_decider_2
    by_cases h1 : (16 : Int32) ≤ i
    · rw [if_pos h1]; exact Or.inl rfl
    · rw [if_neg h1]
      by_cases h2 : σ.1 7 i.toNatClampNeg ≤ a
      · rw [if_pos h2]; exact ih σ a b _ (hs h1)
      · rw [if_neg h2]
        by_cases h3 : b ≤ σ.1 6 i.toNatClampNeg
        · rw [if_pos h3]; exact ih σ a b _ (hs h1)
        · rw [if_neg h3]; exact Or.inr (eb_inU (by decide) hi (eb_nle h1))
theorem l_X6_decider (σ : eb_St) (a b : Int32) : m_X6_decider σ a b = -1 ∨ vp_in (m_X6_decider σ a b) 16 := l_X6_decider_2 17 σ a b 0 (by decide)

def m_X6_nextBorder_5  : Nat → eb_St → Int32 → Int32 → Int32 → Int32
  | 0, _, _, _, _ => 0
  | n + 1, σ, v1, v3, v4 => (if (16 : Int32) ≤ v4 then v3 else (if (σ.1 6 v4.toNatClampNeg) ≤ v1 then (if (σ.1 7 v4.toNatClampNeg) ≤ v1 then (fun (x4 : Int32) => m_X6_nextBorder_5  n σ v1 v3 x4) (v4 + 1) else (if v3 ≤ (σ.1 7 v4.toNatClampNeg) then (fun (x6 : Int32) => m_X6_nextBorder_5  n σ v1 v3 x6) (v4 + 1) else (fun (x7 : Int32) => (fun (x8 : Int32) => m_X6_nextBorder_5  n σ v1 x7 x8) (v4 + 1)) (σ.1 7 v4.toNatClampNeg))) else (if v3 ≤ (σ.1 6 v4.toNatClampNeg) then (if (σ.1 7 v4.toNatClampNeg) ≤ v1 then (fun (x11 : Int32) => m_X6_nextBorder_5  n σ v1 v3 x11) (v4 + 1) else (if v3 ≤ (σ.1 7 v4.toNatClampNeg) then (fun (x13 : Int32) => m_X6_nextBorder_5  n σ v1 v3 x13) (v4 + 1) else (fun (x14 : Int32) => (fun (x15 : Int32) => m_X6_nextBorder_5  n σ v1 x14 x15) (v4 + 1)) (σ.1 7 v4.toNatClampNeg))) else (fun (x16 : Int32) => (if (σ.1 7 v4.toNatClampNeg) ≤ v1 then (fun (x18 : Int32) => m_X6_nextBorder_5  n σ v1 x16 x18) (v4 + 1) else (if x16 ≤ (σ.1 7 v4.toNatClampNeg) then (fun (x20 : Int32) => m_X6_nextBorder_5  n σ v1 x16 x20) (v4 + 1) else (fun (x21 : Int32) => (fun (x22 : Int32) => m_X6_nextBorder_5  n σ v1 x21 x22) (v4 + 1)) (σ.1 7 v4.toNatClampNeg)))) (σ.1 6 v4.toNatClampNeg))))
def m_X6_nextBorder (σ : eb_St) (a0 : Int32) (a1 : Int32) : Int32 := m_X6_nextBorder_5  17 σ a0 a1 0

def m_X6_lets_101  (σ : eb_St) (v5 : Int32) (v7 : Int32) : Bool := (if ((σ.1 4 v7.toNatClampNeg) &&& v5) = 0 then false else true)
def m_X6_lets (σ : eb_St) (a0 : Int32) (a1 : Int64) (a2 : Int32) (a3 : Int32) : Bool := (if a1 < 0 then false else (if a1 ≤ ((65536 - a2).toInt64) then (fun (x3 : Int32) => (fun (z4 : Int32) => (if z4 = (-1) then (if a0 = 3 then true else false) else (if x3 < (σ.1 6 z4.toNatClampNeg) then false else (if (x3 + a2) ≤ (σ.1 7 z4.toNatClampNeg) then (if a0 = 3 then (if ((σ.1 4 z4.toNatClampNeg) &&& 128) = 0 then true else m_X6_lets_101  σ a3 z4) else m_X6_lets_101  σ a3 z4) else false)))) (m_X6_decider σ x3 (x3 + a2))) (a1.toInt32) else false))

def m_X6_letsEach_74  (σ : eb_St) (v4 : Int32) (v5 : Int32) : Bool := (if v5 < v4 then false else true)
def m_X6_letsEach_11  : Nat → eb_St → Int32 → Int32 → Int32 → Int32 → Bool
  | 0, _, _, _, _, _ => false
  | n + 1, σ, v3, v4, v5, v6 => (if (32 : Int32) < v6 then m_X6_letsEach_74  σ v4 v5 else (if v4 ≤ v5 then m_X6_letsEach_74  σ v4 v5 else (fun (z4 : Int32) => (if z4 = (-1) then false else (if ((σ.1 4 z4.toNatClampNeg) &&& v3) = v3 then (fun (z7 : Int32) => (fun (x8 : Int32) => m_X6_letsEach_11  n σ v3 v4 z7 x8) (v6 + 1)) (m_X6_nextBorder σ v5 v4) else false))) (m_X6_decider σ v5 (v5 + 1))))
def m_X6_letsEach (σ : eb_St) (a0 : Int32) (a1 : Int32) (a2 : Int32) : Bool := (fun (x1 : Int32) => m_X6_letsEach_11  34 σ a2 x1 a0 0) (a0 + a1)
set_option maxHeartbeats 4000000 in
set_option maxRecDepth 100000 in
theorem c_X0_basic (l : Launch) (D : va_G) (cy : Nat → ClassId) (ad : Nat → Nat) (σ : eb_St) (a0 : Int32) (a1 : Int32) (a2 : Int64) (a3 : Int64)  : eb_M l yX0_basic (Cond.code yX0_basic cX0_basic 7 (some .long) :: wsL_law) 2 46 D 33 cy cL ad σ [.int a0, .int a1, .long a2, .long a3] (some (.long (m_X0_basic a0 a1 a2 a3))) σ := by
  refine eb_start (own := RX0) (by decide) rfl rfl (Nat.le_of_ble_eq_true rfl) ?_
  intro p e s m args below meth c A ls X hw hl
  have hl : lv_has ls 7 [(0, .int a0), (1, .int a1), (2, .long a2), (4, .long a3)] := hl
  have hx := X.1.1
  have hb := X.1.2.1
  have hown := X.1.2.2.2.1
  have hts := X.1.2.2.2.2
  generalize hm : m_X0_basic a0 a1 a2 a3 = mm
  have hm : (fun (x1 : Int32) => (if a0 = 0 then (if a1 = 0 then a2 + a3 else a2 - a3) else if a0 = 1 then eb_lshl a2 x1 else if a0 = 2 then (if a3 ≤ a2 then 0 else 1) else if a0 = 3 then (fun (z8 : Int32) => (if 0 ≤ z8 then 0 else 1)) (m_J13_compareUnsigned_74951 a2 a3) else if a0 = 4 then a2 ^^^ a3 else if a0 = 5 then (if a1 = 0 then eb_lushr a2 x1 else eb_lshr a2 x1) else if a0 = 6 then a2 ||| a3 else a2 &&& a3)) (a3.toInt32 &&& 63) = mm := hm
  refine lv_lload hx hb dX0_basic_0 (lv_at hl 3 rfl) ?_
  refine lv_l2i (v := a3.toInt32) hx hb dX0_basic_2 rfl ?_
  refine lv_bipush (v := 63) hx hb dX0_basic_3 (by decide) ?_
  refine lv_iand hx hb dX0_basic_5 ?_
  refine lv_topi (fun x1 ex1 => ?_)
  have hm : (if a0 = 0 then (if a1 = 0 then a2 + a3 else a2 - a3) else if a0 = 1 then eb_lshl a2 x1 else if a0 = 2 then (if a3 ≤ a2 then 0 else 1) else if a0 = 3 then (fun (z8 : Int32) => (if 0 ≤ z8 then 0 else 1)) (m_J13_compareUnsigned_74951 a2 a3) else if a0 = 4 then a2 ^^^ a3 else if a0 = 5 then (if a1 = 0 then eb_lushr a2 x1 else eb_lshr a2 x1) else if a0 = 6 then a2 ||| a3 else a2 &&& a3) = mm := by rw [ex1]; exact hm
  refine lv_istore (lv' := [(6, .int x1), (0, .int a0), (1, .int a1), (2, .long a2), (4, .long a3)]) hx hb dX0_basic_6 hl (by decide) rfl (fun ls hl => ?_)
  refine lv_iload_n hx hb dX0_basic_8 rfl (lv_at hl 1 rfl) ?_
  by_cases h2 : a0 = 0
  · have hm := (if_pos h2).symm.trans hm
    refine lv_tableIn (off := 43) (tgt := 52) hx hb dX0_basic_9 (by rw [h2]; decide) (by rw [h2]; decide) (by rw [h2]; rfl) (by decide) ?_
    refine lv_iload_n hx hb dX0_basic_52 rfl (lv_at hl 2 rfl) ?_
    refine lv_if_eq (tgt := 63) hx hb dX0_basic_53 (by decide) (fun h3 => ?_) (fun h3 => ?_)
    · have hm := (if_pos h3).symm.trans hm
      refine lv_lload_n hx hb dX0_basic_63 rfl (lv_at hl 3 rfl) ?_
      refine lv_lload hx hb dX0_basic_64 (lv_at hl 4 rfl) ?_
      refine lv_ladd hx hb dX0_basic_66 ?_
      subst hm
      exact eb_lret X hw rfl rfl rfl dX0_basic_67
    · have hm := (if_neg h3).symm.trans hm
      refine lv_lload_n hx hb dX0_basic_56 rfl (lv_at hl 3 rfl) ?_
      refine lv_lload hx hb dX0_basic_57 (lv_at hl 4 rfl) ?_
      refine lv_lsub hx hb dX0_basic_59 ?_
      refine lv_goto (tgt := 67) hx hb dX0_basic_60 (by decide) ?_
      subst hm
      exact eb_lret X hw rfl rfl rfl dX0_basic_67
  · have hm := (if_neg h2).symm.trans hm
    by_cases h4 : a0 = 1
    · have hm := (if_pos h4).symm.trans hm
      refine lv_tableIn (off := 59) (tgt := 68) hx hb dX0_basic_9 (by rw [h4]; decide) (by rw [h4]; decide) (by rw [h4]; rfl) (by decide) ?_
      refine lv_lload_n hx hb dX0_basic_68 rfl (lv_at hl 3 rfl) ?_
      refine lv_iload hx hb dX0_basic_69 (lv_at hl 0 rfl) ?_
      refine lv_lshl (v := eb_lshl a2 x1) hx hb dX0_basic_71 rfl ?_
      subst hm
      exact eb_lret X hw rfl rfl rfl dX0_basic_72
    · have hm := (if_neg h4).symm.trans hm
      by_cases h5 : a0 = 2
      · have hm := (if_pos h5).symm.trans hm
        refine lv_tableIn (off := 64) (tgt := 73) hx hb dX0_basic_9 (by rw [h5]; decide) (by rw [h5]; decide) (by rw [h5]; rfl) (by decide) ?_
        refine lv_lload_n hx hb dX0_basic_73 rfl (lv_at hl 3 rfl) ?_
        refine lv_lload hx hb dX0_basic_74 (lv_at hl 4 rfl) ?_
        refine eb_lif_ge (tgt := 84) hx hb dX0_basic_76 dX0_basic_77 (by decide) (fun h6 => ?_) (fun h6 => ?_)
        · have hm := (if_pos h6).symm.trans hm
          refine lv_lconst (v := 0) hx hb dX0_basic_84 (by decide) ?_
          subst hm
          exact eb_lret X hw rfl rfl rfl dX0_basic_85
        · have hm := (if_neg h6).symm.trans hm
          refine lv_lconst (v := 1) hx hb dX0_basic_80 (by decide) ?_
          refine lv_goto (tgt := 85) hx hb dX0_basic_81 (by decide) ?_
          subst hm
          exact eb_lret X hw rfl rfl rfl dX0_basic_85
      · have hm := (if_neg h5).symm.trans hm
        by_cases h7 : a0 = 3
        · have hm := (if_pos h7).symm.trans hm
          refine lv_tableIn (off := 77) (tgt := 86) hx hb dX0_basic_9 (by rw [h7]; decide) (by rw [h7]; decide) (by rw [h7]; rfl) (by decide) ?_
          refine lv_lload_n hx hb dX0_basic_86 rfl (lv_at hl 3 rfl) ?_
          refine lv_lload hx hb dX0_basic_87 (lv_at hl 4 rfl) ?_
          obtain ⟨z8, qz8⟩ : ∃ t : Int32, t = m_J13_compareUnsigned_74951 a2 a3 := ⟨_, rfl⟩
          have hm : (if 0 ≤ z8 then 0 else 1) = mm := by rw [qz8]; exact hm
          have hc : eb_M l yJ13_compareUnsigned_74951 (Cond.code yJ13_compareUnsigned_74951 cJ13_compareUnsigned_74951 4 (some .int) :: wsL_law) 1 23 D 33 cy cL ad σ [.long a2, .long a3] (some (.int z8)) σ := by rw [qz8]; exact c_J13_compareUnsigned_74951 l D cy ad σ a2 a3
          refine eb_callS (n := 2) X hw hl.1 (rest := []) hc (eb_goodS wi_16_20 wi_16_21 wi_16_22 wi_16_23) rfl (by decide +kernel) ⟨by decide, by decide⟩ rfl rfl (Nat.le_of_ble_eq_true rfl) dX0_basic_89 ⟨by decide, by decide⟩ (st' := [.int z8]) rfl (fun H locs hw => ?_)
          refine lv_if_ge (tgt := 99) hx hb dX0_basic_92 (by decide) (fun h9 => ?_) (fun h9 => ?_)
          · have hm := (if_pos h9).symm.trans hm
            refine lv_lconst (v := 0) hx hb dX0_basic_99 (by decide) ?_
            subst hm
            exact eb_lret X hw rfl rfl rfl dX0_basic_100
          · have hm := (if_neg h9).symm.trans hm
            refine lv_lconst (v := 1) hx hb dX0_basic_95 (by decide) ?_
            refine lv_goto (tgt := 100) hx hb dX0_basic_96 (by decide) ?_
            subst hm
            exact eb_lret X hw rfl rfl rfl dX0_basic_100
        · have hm := (if_neg h7).symm.trans hm
          by_cases h10 : a0 = 4
          · have hm := (if_pos h10).symm.trans hm
            refine lv_tableIn (off := 92) (tgt := 101) hx hb dX0_basic_9 (by rw [h10]; decide) (by rw [h10]; decide) (by rw [h10]; rfl) (by decide) ?_
            refine lv_lload_n hx hb dX0_basic_101 rfl (lv_at hl 3 rfl) ?_
            refine lv_lload hx hb dX0_basic_102 (lv_at hl 4 rfl) ?_
            refine lv_lxor hx hb dX0_basic_104 ?_
            subst hm
            exact eb_lret X hw rfl rfl rfl dX0_basic_105
          · have hm := (if_neg h10).symm.trans hm
            by_cases h11 : a0 = 5
            · have hm := (if_pos h11).symm.trans hm
              refine lv_tableIn (off := 97) (tgt := 106) hx hb dX0_basic_9 (by rw [h11]; decide) (by rw [h11]; decide) (by rw [h11]; rfl) (by decide) ?_
              refine lv_iload_n hx hb dX0_basic_106 rfl (lv_at hl 2 rfl) ?_
              refine lv_if_eq (tgt := 117) hx hb dX0_basic_107 (by decide) (fun h12 => ?_) (fun h12 => ?_)
              · have hm := (if_pos h12).symm.trans hm
                refine lv_lload_n hx hb dX0_basic_117 rfl (lv_at hl 3 rfl) ?_
                refine lv_iload hx hb dX0_basic_118 (lv_at hl 0 rfl) ?_
                refine lv_lushr (v := eb_lushr a2 x1) hx hb dX0_basic_120 rfl ?_
                subst hm
                exact eb_lret X hw rfl rfl rfl dX0_basic_121
              · have hm := (if_neg h12).symm.trans hm
                refine lv_lload_n hx hb dX0_basic_110 rfl (lv_at hl 3 rfl) ?_
                refine lv_iload hx hb dX0_basic_111 (lv_at hl 0 rfl) ?_
                refine lv_lshr (v := eb_lshr a2 x1) hx hb dX0_basic_113 rfl ?_
                refine lv_goto (tgt := 121) hx hb dX0_basic_114 (by decide) ?_
                subst hm
                exact eb_lret X hw rfl rfl rfl dX0_basic_121
            · have hm := (if_neg h11).symm.trans hm
              by_cases h13 : a0 = 6
              · have hm := (if_pos h13).symm.trans hm
                refine lv_tableIn (off := 113) (tgt := 122) hx hb dX0_basic_9 (by rw [h13]; decide) (by rw [h13]; decide) (by rw [h13]; rfl) (by decide) ?_
                refine lv_lload_n hx hb dX0_basic_122 rfl (lv_at hl 3 rfl) ?_
                refine lv_lload hx hb dX0_basic_123 (lv_at hl 4 rfl) ?_
                refine lv_lor hx hb dX0_basic_125 ?_
                subst hm
                exact eb_lret X hw rfl rfl rfl dX0_basic_126
              · have hm := (if_neg h13).symm.trans hm
                refine lv_tableOut (tgt := 127) hx hb dX0_basic_9 (by have qh2 := lv_neT h2 (a := 0) (by decide); have qh4 := lv_neT h4 (a := 1) (by decide); have qh5 := lv_neT h5 (a := 2) (by decide); have qh7 := lv_neT h7 (a := 3) (by decide); have qh10 := lv_neT h10 (a := 4) (by decide); have qh11 := lv_neT h11 (a := 5) (by decide); have qh13 := lv_neT h13 (a := 6) (by decide); omega) (by decide) ?_
                refine lv_lload_n hx hb dX0_basic_127 rfl (lv_at hl 3 rfl) ?_
                refine lv_lload hx hb dX0_basic_128 (lv_at hl 4 rfl) ?_
                refine lv_land hx hb dX0_basic_130 ?_
                subst hm
                exact eb_lret X hw rfl rfl rfl dX0_basic_131

set_option maxHeartbeats 4000000 in
set_option maxRecDepth 100000 in
theorem c_X0_basicWord (l : Launch) (D : va_G) (cy : Nat → ClassId) (ad : Nat → Nat) (σ : eb_St) (a0 : Int32) (a1 : Int32) (a2 : Int32) (a3 : Int32)  : eb_M l yX0_basicWord (Cond.code yX0_basicWord cX0_basicWord 5 (some .long) :: wsL_law) 0 0 D 33 cy cL ad σ [.int a0, .int a1, .int a2, .int a3] (some (.long (m_X0_basicWord a0 a1 a2 a3))) σ := by
  refine eb_start (own := RX0) (by decide) rfl rfl (Nat.le_of_ble_eq_true rfl) ?_
  intro p e s m args below meth c A ls X hw hl
  have hl : lv_has ls 5 [(0, .int a0), (1, .int a1), (2, .int a2), (3, .int a3)] := hl
  have hx := X.1.1
  have hb := X.1.2.1
  have hown := X.1.2.2.2.1
  have hts := X.1.2.2.2.2
  generalize hm : m_X0_basicWord a0 a1 a2 a3 = mm
  have hm : (fun (x1 : Int32) => (if a0 = 0 then (if a1 = 0 then (a2 + a3).toInt64 else (a2 - a3).toInt64) else if a0 = 1 then (a2 <<< (x1 &&& 31)).toInt64 else (if a1 = 0 then (eb_iushr a2 x1).toInt64 else (a2 >>> (x1 &&& 31)).toInt64))) (a3 &&& 31) = mm := hm
  refine lv_iload_n hx hb dX0_basicWord_0 rfl (lv_at hl 3 rfl) ?_
  refine lv_bipush (v := 31) hx hb dX0_basicWord_1 (by decide) ?_
  refine lv_iand hx hb dX0_basicWord_3 ?_
  refine lv_topi (fun x1 ex1 => ?_)
  have hm : (if a0 = 0 then (if a1 = 0 then (a2 + a3).toInt64 else (a2 - a3).toInt64) else if a0 = 1 then (a2 <<< (x1 &&& 31)).toInt64 else (if a1 = 0 then (eb_iushr a2 x1).toInt64 else (a2 >>> (x1 &&& 31)).toInt64)) = mm := by rw [ex1]; exact hm
  refine lv_istore (lv' := [(4, .int x1), (0, .int a0), (1, .int a1), (2, .int a2), (3, .int a3)]) hx hb dX0_basicWord_4 hl (by decide) rfl (fun ls hl => ?_)
  refine lv_iload_n hx hb dX0_basicWord_6 rfl (lv_at hl 1 rfl) ?_
  by_cases h2 : a0 = 0
  · have hm := (if_pos h2).symm.trans hm
    refine lv_lookup (off := 25) (tgt := 32) hx hb dX0_basicWord_7 (by decide) (by rw [h2]; decide) (by decide) ?_
    refine lv_iload_n hx hb dX0_basicWord_32 rfl (lv_at hl 2 rfl) ?_
    refine lv_if_eq (tgt := 43) hx hb dX0_basicWord_33 (by decide) (fun h3 => ?_) (fun h3 => ?_)
    · have hm := (if_pos h3).symm.trans hm
      refine lv_iload_n hx hb dX0_basicWord_43 rfl (lv_at hl 3 rfl) ?_
      refine lv_iload_n hx hb dX0_basicWord_44 rfl (lv_at hl 4 rfl) ?_
      refine lv_iadd hx hb dX0_basicWord_45 ?_
      refine lv_i2l (v := (a2 + a3).toInt64) hx hb dX0_basicWord_46 rfl ?_
      subst hm
      exact eb_lret X hw rfl rfl rfl dX0_basicWord_47
    · have hm := (if_neg h3).symm.trans hm
      refine lv_iload_n hx hb dX0_basicWord_36 rfl (lv_at hl 3 rfl) ?_
      refine lv_iload_n hx hb dX0_basicWord_37 rfl (lv_at hl 4 rfl) ?_
      refine lv_isub hx hb dX0_basicWord_38 ?_
      refine lv_i2l (v := (a2 - a3).toInt64) hx hb dX0_basicWord_39 rfl ?_
      refine lv_goto (tgt := 47) hx hb dX0_basicWord_40 (by decide) ?_
      subst hm
      exact eb_lret X hw rfl rfl rfl dX0_basicWord_47
  · have hm := (if_neg h2).symm.trans hm
    by_cases h4 : a0 = 1
    · have hm := (if_pos h4).symm.trans hm
      refine lv_lookup (off := 41) (tgt := 48) hx hb dX0_basicWord_7 (by decide) (by rw [h4]; decide) (by decide) ?_
      refine lv_iload_n hx hb dX0_basicWord_48 rfl (lv_at hl 3 rfl) ?_
      refine lv_iload hx hb dX0_basicWord_49 (lv_at hl 0 rfl) ?_
      refine lv_ishl hx hb dX0_basicWord_51 ?_
      refine lv_i2l (v := (a2 <<< (x1 &&& 31)).toInt64) hx hb dX0_basicWord_52 rfl ?_
      subst hm
      exact eb_lret X hw rfl rfl rfl dX0_basicWord_53
    · have hm := (if_neg h4).symm.trans hm
      refine lv_lookup (off := 47) (tgt := 54) hx hb dX0_basicWord_7 (by decide) (by show Op.lookupswitch.offset [(0, 25), (1, 41)] _ _ = _; rw [lv_osw h2 (by decide)]; rw [lv_osw h4 (by decide)]; rfl) (by decide) ?_
      refine lv_iload_n hx hb dX0_basicWord_54 rfl (lv_at hl 2 rfl) ?_
      refine lv_if_eq (tgt := 66) hx hb dX0_basicWord_55 (by decide) (fun h5 => ?_) (fun h5 => ?_)
      · have hm := (if_pos h5).symm.trans hm
        refine lv_iload_n hx hb dX0_basicWord_66 rfl (lv_at hl 3 rfl) ?_
        refine lv_iload hx hb dX0_basicWord_67 (lv_at hl 0 rfl) ?_
        refine lv_iushr (v := eb_iushr a2 x1) hx hb dX0_basicWord_69 rfl ?_
        refine lv_i2l (v := (eb_iushr a2 x1).toInt64) hx hb dX0_basicWord_70 rfl ?_
        subst hm
        exact eb_lret X hw rfl rfl rfl dX0_basicWord_71
      · have hm := (if_neg h5).symm.trans hm
        refine lv_iload_n hx hb dX0_basicWord_58 rfl (lv_at hl 3 rfl) ?_
        refine lv_iload hx hb dX0_basicWord_59 (lv_at hl 0 rfl) ?_
        refine lv_ishr hx hb dX0_basicWord_61 ?_
        refine lv_i2l (v := (a2 >>> (x1 &&& 31)).toInt64) hx hb dX0_basicWord_62 rfl ?_
        refine lv_goto (tgt := 71) hx hb dX0_basicWord_63 (by decide) ?_
        subst hm
        exact eb_lret X hw rfl rfl rfl dX0_basicWord_71

set_option maxHeartbeats 4000000 in
set_option maxRecDepth 100000 in
theorem c_X0_multiplied (l : Launch) (D : va_G) (cy : Nat → ClassId) (ad : Nat → Nat) (σ : eb_St) (a0 : Int32) (a1 : Int64) (a2 : Int64)  : eb_M l yX0_multiplied (Cond.code yX0_multiplied cX0_multiplied 5 (some .long) :: wsL_law) 1 39 D 33 cy cL ad σ [.int a0, .long a1, .long a2] (some (.long (m_X0_multiplied a0 a1 a2))) σ := by
  refine eb_start (own := RX0) (by decide) rfl rfl (Nat.le_of_ble_eq_true rfl) ?_
  intro p e s m args below meth c A ls X hw hl
  have hl : lv_has ls 5 [(0, .int a0), (1, .long a1), (3, .long a2)] := hl
  have hx := X.1.1
  have hb := X.1.2.1
  have hown := X.1.2.2.2.1
  have hts := X.1.2.2.2.2
  generalize hm : m_X0_multiplied a0 a1 a2 = mm
  have hm : (if a0 = 0 then a1 * a2 else if a0 = 1 then (fun (z3 : Int64) => z3) (m_J9_multiplyHigh_f86c9 a1 a2) else if a0 = 2 then (fun (z5 : Int64) => z5 + (a1 &&& (eb_lshr a2 63))) (m_J9_multiplyHigh_f86c9 a1 a2) else (fun (z6 : Int64) => (z6 + (a1 &&& (eb_lshr a2 63))) + (a2 &&& (eb_lshr a1 63))) (m_J9_multiplyHigh_f86c9 a1 a2)) = mm := hm
  refine lv_iload_n hx hb dX0_multiplied_0 rfl (lv_at hl 0 rfl) ?_
  by_cases h1 : a0 = 0
  · have hm := (if_pos h1).symm.trans hm
    refine lv_tableIn (off := 27) (tgt := 28) hx hb dX0_multiplied_1 (by rw [h1]; decide) (by rw [h1]; decide) (by rw [h1]; rfl) (by decide) ?_
    refine lv_lload_n hx hb dX0_multiplied_28 rfl (lv_at hl 1 rfl) ?_
    refine lv_lload_n hx hb dX0_multiplied_29 rfl (lv_at hl 2 rfl) ?_
    refine lv_lmul hx hb dX0_multiplied_30 ?_
    subst hm
    exact eb_lret X hw rfl rfl rfl dX0_multiplied_31
  · have hm := (if_neg h1).symm.trans hm
    by_cases h2 : a0 = 1
    · have hm := (if_pos h2).symm.trans hm
      refine lv_tableIn (off := 31) (tgt := 32) hx hb dX0_multiplied_1 (by rw [h2]; decide) (by rw [h2]; decide) (by rw [h2]; rfl) (by decide) ?_
      refine lv_lload_n hx hb dX0_multiplied_32 rfl (lv_at hl 1 rfl) ?_
      refine lv_lload_n hx hb dX0_multiplied_33 rfl (lv_at hl 2 rfl) ?_
      obtain ⟨z3, qz3⟩ : ∃ t : Int64, t = m_J9_multiplyHigh_f86c9 a1 a2 := ⟨_, rfl⟩
      have hm : z3 = mm := by rw [qz3]; exact hm
      have hc : eb_M l yJ9_multiplyHigh_f86c9 (Cond.code yJ9_multiplyHigh_f86c9 cJ9_multiplyHigh_f86c9 20 (some .long) :: wsL_law) 0 0 D 33 cy cL ad σ [.long a1, .long a2] (some (.long z3)) σ := by rw [qz3]; exact c_J9_multiplyHigh_f86c9 l D cy ad σ a1 a2
      refine eb_callS (n := 2) X hw hl.1 (rest := []) hc (eb_goodS wi_18_2 wi_18_3 wi_18_4 wi_18_5) rfl (by decide +kernel) ⟨by decide, by decide⟩ rfl rfl (Nat.le_of_ble_eq_true rfl) dX0_multiplied_34 ⟨by decide, by decide⟩ (st' := [.long z3]) rfl (fun H locs hw => ?_)
      subst hm
      exact eb_lret X hw rfl rfl rfl dX0_multiplied_37
    · have hm := (if_neg h2).symm.trans hm
      by_cases h4 : a0 = 2
      · have hm := (if_pos h4).symm.trans hm
        refine lv_tableIn (off := 37) (tgt := 38) hx hb dX0_multiplied_1 (by rw [h4]; decide) (by rw [h4]; decide) (by rw [h4]; rfl) (by decide) ?_
        refine lv_lload_n hx hb dX0_multiplied_38 rfl (lv_at hl 1 rfl) ?_
        refine lv_lload_n hx hb dX0_multiplied_39 rfl (lv_at hl 2 rfl) ?_
        obtain ⟨z5, qz5⟩ : ∃ t : Int64, t = m_J9_multiplyHigh_f86c9 a1 a2 := ⟨_, rfl⟩
        have hm : z5 + (a1 &&& (eb_lshr a2 63)) = mm := by rw [qz5]; exact hm
        have hc : eb_M l yJ9_multiplyHigh_f86c9 (Cond.code yJ9_multiplyHigh_f86c9 cJ9_multiplyHigh_f86c9 20 (some .long) :: wsL_law) 0 0 D 33 cy cL ad σ [.long a1, .long a2] (some (.long z5)) σ := by rw [qz5]; exact c_J9_multiplyHigh_f86c9 l D cy ad σ a1 a2
        refine eb_callS (n := 2) X hw hl.1 (rest := []) hc (eb_goodS wi_18_2 wi_18_3 wi_18_4 wi_18_5) rfl (by decide +kernel) ⟨by decide, by decide⟩ rfl rfl (Nat.le_of_ble_eq_true rfl) dX0_multiplied_40 ⟨by decide, by decide⟩ (st' := [.long z5]) rfl (fun H locs hw => ?_)
        refine lv_lload_n hx hb dX0_multiplied_43 rfl (lv_at hl 1 rfl) ?_
        refine lv_lload_n hx hb dX0_multiplied_44 rfl (lv_at hl 2 rfl) ?_
        refine lv_bipush (v := 63) hx hb dX0_multiplied_45 (by decide) ?_
        refine lv_lshr (v := eb_lshr a2 63) hx hb dX0_multiplied_47 rfl ?_
        refine lv_land hx hb dX0_multiplied_48 ?_
        refine lv_ladd hx hb dX0_multiplied_49 ?_
        subst hm
        exact eb_lret X hw rfl rfl rfl dX0_multiplied_50
      · have hm := (if_neg h4).symm.trans hm
        refine lv_tableOut (tgt := 51) hx hb dX0_multiplied_1 (by have qh1 := lv_neT h1 (a := 0) (by decide); have qh2 := lv_neT h2 (a := 1) (by decide); have qh4 := lv_neT h4 (a := 2) (by decide); omega) (by decide) ?_
        refine lv_lload_n hx hb dX0_multiplied_51 rfl (lv_at hl 1 rfl) ?_
        refine lv_lload_n hx hb dX0_multiplied_52 rfl (lv_at hl 2 rfl) ?_
        obtain ⟨z6, qz6⟩ : ∃ t : Int64, t = m_J9_multiplyHigh_f86c9 a1 a2 := ⟨_, rfl⟩
        have hm : (z6 + (a1 &&& (eb_lshr a2 63))) + (a2 &&& (eb_lshr a1 63)) = mm := by rw [qz6]; exact hm
        have hc : eb_M l yJ9_multiplyHigh_f86c9 (Cond.code yJ9_multiplyHigh_f86c9 cJ9_multiplyHigh_f86c9 20 (some .long) :: wsL_law) 0 0 D 33 cy cL ad σ [.long a1, .long a2] (some (.long z6)) σ := by rw [qz6]; exact c_J9_multiplyHigh_f86c9 l D cy ad σ a1 a2
        refine eb_callS (n := 2) X hw hl.1 (rest := []) hc (eb_goodS wi_18_2 wi_18_3 wi_18_4 wi_18_5) rfl (by decide +kernel) ⟨by decide, by decide⟩ rfl rfl (Nat.le_of_ble_eq_true rfl) dX0_multiplied_53 ⟨by decide, by decide⟩ (st' := [.long z6]) rfl (fun H locs hw => ?_)
        refine lv_lload_n hx hb dX0_multiplied_56 rfl (lv_at hl 1 rfl) ?_
        refine lv_lload_n hx hb dX0_multiplied_57 rfl (lv_at hl 2 rfl) ?_
        refine lv_bipush (v := 63) hx hb dX0_multiplied_58 (by decide) ?_
        refine lv_lshr (v := eb_lshr a2 63) hx hb dX0_multiplied_60 rfl ?_
        refine lv_land hx hb dX0_multiplied_61 ?_
        refine lv_ladd hx hb dX0_multiplied_62 ?_
        refine lv_lload_n hx hb dX0_multiplied_63 rfl (lv_at hl 2 rfl) ?_
        refine lv_lload_n hx hb dX0_multiplied_64 rfl (lv_at hl 1 rfl) ?_
        refine lv_bipush (v := 63) hx hb dX0_multiplied_65 (by decide) ?_
        refine lv_lshr (v := eb_lshr a1 63) hx hb dX0_multiplied_67 rfl ?_
        refine lv_land hx hb dX0_multiplied_68 ?_
        refine lv_ladd hx hb dX0_multiplied_69 ?_
        subst hm
        exact eb_lret X hw rfl rfl rfl dX0_multiplied_70

set_option maxHeartbeats 4000000 in
set_option maxRecDepth 100000 in
theorem k_X0_multipliedWord_104 {p : Program} {l : Launch} {e : Env} {s : State} {m : MethodId} {args : Array Value} {below : List Frame} {meth : Method} {c : Code} {A : Nat → Prop} {H : Heap} {locs : List Loc} {ls : Array Slot} {D : va_G} {cy : Nat → ClassId} {ad : Nat → Nat} (X : eb_X p s m args meth c cX0_multipliedWord 3 RX0 (Cond.code yX0_multipliedWord cX0_multipliedWord 3 (some .long) :: wsL_law) (some .long) D cy A)   (σ : eb_St) (v1 : Int32) (v2 : Int32)  {mm : Int64} (hm : (m_X0_multipliedWord_104  v1 v2) = mm) (hw : eb_H D 33 cy cL ad A s.heap σ H locs) (hl : lv_has ls 3 [(1, .int v1), (2, .int v2)]) : W p l e ({ frames := 0, cells := 0, slots := 0, locals := 0 } : Room) s m args below meth c H locs 0 0 (MQ below (eb_Q D 33 cy cL ad A (some (.long mm)) σ) args s 0 0 A) (F0 m 104 ls []) := by
  have hx := X.1.1
  have hb := X.1.2.1
  have hown := X.1.2.2.2.1
  have hts := X.1.2.2.2.2
  have hm : (if v2 = 0 then v1.toInt64 else (((v1.toInt64 &&& 4294967295) - (v1.toInt64 &&& 4294967295) / (v2.toInt64 &&& 4294967295) * (v2.toInt64 &&& 4294967295)).toInt32).toInt64) = mm := hm
  refine lv_iload_n hx hb dX0_multipliedWord_104 rfl (lv_at hl 1 rfl) ?_
  refine lv_if_ne (tgt := 113) hx hb dX0_multipliedWord_105 (by decide) (fun h11 => ?_) (fun h11 => ?_)
  · have hm := (if_neg h11).symm.trans hm
    refine lv_iload_n hx hb dX0_multipliedWord_113 rfl (lv_at hl 0 rfl) ?_
    refine lv_i2l (v := v1.toInt64) hx hb dX0_multipliedWord_114 rfl ?_
    refine lv_ldc2 hx hb hown (hts _ (List.mem_cons_of_mem _ wi_18_21)) dX0_multipliedWord_115 ?_
    refine lv_land hx hb dX0_multipliedWord_118 ?_
    refine lv_iload_n hx hb dX0_multipliedWord_119 rfl (lv_at hl 1 rfl) ?_
    refine lv_i2l (v := v2.toInt64) hx hb dX0_multipliedWord_120 rfl ?_
    refine lv_ldc2 hx hb hown (hts _ (List.mem_cons_of_mem _ wi_18_21)) dX0_multipliedWord_121 ?_
    refine lv_land hx hb dX0_multipliedWord_124 ?_
    refine lv_lrem hx hb dX0_multipliedWord_125 (eb_lowne h11) ?_
    refine lv_l2i (v := ((v1.toInt64 &&& 4294967295) - (v1.toInt64 &&& 4294967295) / (v2.toInt64 &&& 4294967295) * (v2.toInt64 &&& 4294967295)).toInt32) hx hb dX0_multipliedWord_126 rfl ?_
    refine lv_i2l (v := (((v1.toInt64 &&& 4294967295) - (v1.toInt64 &&& 4294967295) / (v2.toInt64 &&& 4294967295) * (v2.toInt64 &&& 4294967295)).toInt32).toInt64) hx hb dX0_multipliedWord_127 rfl ?_
    subst hm
    exact eb_lret X hw rfl rfl rfl dX0_multipliedWord_128
  · have hm := (if_pos h11).symm.trans hm
    refine lv_iload_n hx hb dX0_multipliedWord_108 rfl (lv_at hl 0 rfl) ?_
    refine lv_i2l (v := v1.toInt64) hx hb dX0_multipliedWord_109 rfl ?_
    refine lv_goto (tgt := 128) hx hb dX0_multipliedWord_110 (by decide) ?_
    subst hm
    exact eb_lret X hw rfl rfl rfl dX0_multipliedWord_128
set_option maxHeartbeats 4000000 in
set_option maxRecDepth 100000 in
theorem c_X0_multipliedWord (l : Launch) (D : va_G) (cy : Nat → ClassId) (ad : Nat → Nat) (σ : eb_St) (a0 : Int32) (a1 : Int32) (a2 : Int32)  : eb_M l yX0_multipliedWord (Cond.code yX0_multipliedWord cX0_multipliedWord 3 (some .long) :: wsL_law) 0 0 D 33 cy cL ad σ [.int a0, .int a1, .int a2] (some (.long (m_X0_multipliedWord a0 a1 a2))) σ := by
  refine eb_start (own := RX0) (by decide) rfl rfl (Nat.le_of_ble_eq_true rfl) ?_
  intro p e s m args below meth c A ls X hw hl
  have hl : lv_has ls 3 [(0, .int a0), (1, .int a1), (2, .int a2)] := hl
  have hx := X.1.1
  have hb := X.1.2.1
  have hown := X.1.2.2.2.1
  have hts := X.1.2.2.2.2
  generalize hm : m_X0_multipliedWord a0 a1 a2 = mm
  have hm : (if a0 = 0 then (a1 * a2).toInt64 else if a0 = 1 then m_X0_multipliedWord_104  a1 a2 else if a0 = 2 then m_X0_multipliedWord_104  a1 a2 else if a0 = 3 then m_X0_multipliedWord_104  a1 a2 else if a0 = 4 then (if a2 = 0 then (-1) else (a1 / a2).toInt64) else if a0 = 5 then (if a2 = 0 then (-1) else (((a1.toInt64 &&& 4294967295) / (a2.toInt64 &&& 4294967295)).toInt32).toInt64) else if a0 = 6 then (if a2 = 0 then a1.toInt64 else (a1 - a1 / a2 * a2).toInt64) else m_X0_multipliedWord_104  a1 a2) = mm := hm
  refine lv_iload_n hx hb dX0_multipliedWord_0 rfl (lv_at hl 0 rfl) ?_
  by_cases h1 : a0 = 0
  · have hm := (if_pos h1).symm.trans hm
    refine lv_tableIn (off := 43) (tgt := 44) hx hb dX0_multipliedWord_1 (by rw [h1]; decide) (by rw [h1]; decide) (by rw [h1]; rfl) (by decide) ?_
    refine lv_iload_n hx hb dX0_multipliedWord_44 rfl (lv_at hl 1 rfl) ?_
    refine lv_iload_n hx hb dX0_multipliedWord_45 rfl (lv_at hl 2 rfl) ?_
    refine lv_imul hx hb dX0_multipliedWord_46 ?_
    refine lv_i2l (v := (a1 * a2).toInt64) hx hb dX0_multipliedWord_47 rfl ?_
    subst hm
    exact eb_lret X hw rfl rfl rfl dX0_multipliedWord_48
  · have hm := (if_neg h1).symm.trans hm
    by_cases h2 : a0 = 1
    · have hm := (if_pos h2).symm.trans hm
      refine lv_tableIn (off := 103) (tgt := 104) hx hb dX0_multipliedWord_1 (by rw [h2]; decide) (by rw [h2]; decide) (by rw [h2]; rfl) (by decide) ?_
      exact k_X0_multipliedWord_104 X   σ a1 a2 hm hw (lv_sub hl [1, 2] rfl)
    · have hm := (if_neg h2).symm.trans hm
      by_cases h3 : a0 = 2
      · have hm := (if_pos h3).symm.trans hm
        refine lv_tableIn (off := 103) (tgt := 104) hx hb dX0_multipliedWord_1 (by rw [h3]; decide) (by rw [h3]; decide) (by rw [h3]; rfl) (by decide) ?_
        exact k_X0_multipliedWord_104 X   σ a1 a2 hm hw (lv_sub hl [1, 2] rfl)
      · have hm := (if_neg h3).symm.trans hm
        by_cases h4 : a0 = 3
        · have hm := (if_pos h4).symm.trans hm
          refine lv_tableIn (off := 103) (tgt := 104) hx hb dX0_multipliedWord_1 (by rw [h4]; decide) (by rw [h4]; decide) (by rw [h4]; rfl) (by decide) ?_
          exact k_X0_multipliedWord_104 X   σ a1 a2 hm hw (lv_sub hl [1, 2] rfl)
        · have hm := (if_neg h4).symm.trans hm
          by_cases h5 : a0 = 4
          · have hm := (if_pos h5).symm.trans hm
            refine lv_tableIn (off := 48) (tgt := 49) hx hb dX0_multipliedWord_1 (by rw [h5]; decide) (by rw [h5]; decide) (by rw [h5]; rfl) (by decide) ?_
            refine lv_iload_n hx hb dX0_multipliedWord_49 rfl (lv_at hl 2 rfl) ?_
            refine lv_if_ne (tgt := 59) hx hb dX0_multipliedWord_50 (by decide) (fun h6 => ?_) (fun h6 => ?_)
            · have hm := (if_neg h6).symm.trans hm
              refine lv_iload_n hx hb dX0_multipliedWord_59 rfl (lv_at hl 1 rfl) ?_
              refine lv_iload_n hx hb dX0_multipliedWord_60 rfl (lv_at hl 2 rfl) ?_
              refine lv_idiv hx hb dX0_multipliedWord_61 (by assumption) ?_
              refine lv_i2l (v := (a1 / a2).toInt64) hx hb dX0_multipliedWord_62 rfl ?_
              subst hm
              exact eb_lret X hw rfl rfl rfl dX0_multipliedWord_63
            · have hm := (if_pos h6).symm.trans hm
              refine lv_ldc2 hx hb hown (hts _ (List.mem_cons_of_mem _ wi_18_10)) dX0_multipliedWord_53 ?_
              refine lv_goto (tgt := 63) hx hb dX0_multipliedWord_56 (by decide) ?_
              subst hm
              exact eb_lret X hw rfl rfl rfl dX0_multipliedWord_63
          · have hm := (if_neg h5).symm.trans hm
            by_cases h7 : a0 = 5
            · have hm := (if_pos h7).symm.trans hm
              refine lv_tableIn (off := 63) (tgt := 64) hx hb dX0_multipliedWord_1 (by rw [h7]; decide) (by rw [h7]; decide) (by rw [h7]; rfl) (by decide) ?_
              refine lv_iload_n hx hb dX0_multipliedWord_64 rfl (lv_at hl 2 rfl) ?_
              refine lv_if_ne (tgt := 74) hx hb dX0_multipliedWord_65 (by decide) (fun h8 => ?_) (fun h8 => ?_)
              · have hm := (if_neg h8).symm.trans hm
                refine lv_iload_n hx hb dX0_multipliedWord_74 rfl (lv_at hl 1 rfl) ?_
                refine lv_i2l (v := a1.toInt64) hx hb dX0_multipliedWord_75 rfl ?_
                refine lv_ldc2 hx hb hown (hts _ (List.mem_cons_of_mem _ wi_18_21)) dX0_multipliedWord_76 ?_
                refine lv_land hx hb dX0_multipliedWord_79 ?_
                refine lv_iload_n hx hb dX0_multipliedWord_80 rfl (lv_at hl 2 rfl) ?_
                refine lv_i2l (v := a2.toInt64) hx hb dX0_multipliedWord_81 rfl ?_
                refine lv_ldc2 hx hb hown (hts _ (List.mem_cons_of_mem _ wi_18_21)) dX0_multipliedWord_82 ?_
                refine lv_land hx hb dX0_multipliedWord_85 ?_
                refine lv_ldiv hx hb dX0_multipliedWord_86 (eb_lowne h8) ?_
                refine lv_l2i (v := ((a1.toInt64 &&& 4294967295) / (a2.toInt64 &&& 4294967295)).toInt32) hx hb dX0_multipliedWord_87 rfl ?_
                refine lv_i2l (v := (((a1.toInt64 &&& 4294967295) / (a2.toInt64 &&& 4294967295)).toInt32).toInt64) hx hb dX0_multipliedWord_88 rfl ?_
                subst hm
                exact eb_lret X hw rfl rfl rfl dX0_multipliedWord_89
              · have hm := (if_pos h8).symm.trans hm
                refine lv_ldc2 hx hb hown (hts _ (List.mem_cons_of_mem _ wi_18_10)) dX0_multipliedWord_68 ?_
                refine lv_goto (tgt := 89) hx hb dX0_multipliedWord_71 (by decide) ?_
                subst hm
                exact eb_lret X hw rfl rfl rfl dX0_multipliedWord_89
            · have hm := (if_neg h7).symm.trans hm
              by_cases h9 : a0 = 6
              · have hm := (if_pos h9).symm.trans hm
                refine lv_tableIn (off := 89) (tgt := 90) hx hb dX0_multipliedWord_1 (by rw [h9]; decide) (by rw [h9]; decide) (by rw [h9]; rfl) (by decide) ?_
                refine lv_iload_n hx hb dX0_multipliedWord_90 rfl (lv_at hl 2 rfl) ?_
                refine lv_if_ne (tgt := 99) hx hb dX0_multipliedWord_91 (by decide) (fun h10 => ?_) (fun h10 => ?_)
                · have hm := (if_neg h10).symm.trans hm
                  refine lv_iload_n hx hb dX0_multipliedWord_99 rfl (lv_at hl 1 rfl) ?_
                  refine lv_iload_n hx hb dX0_multipliedWord_100 rfl (lv_at hl 2 rfl) ?_
                  refine lv_irem hx hb dX0_multipliedWord_101 (by assumption) ?_
                  refine lv_i2l (v := (a1 - a1 / a2 * a2).toInt64) hx hb dX0_multipliedWord_102 rfl ?_
                  subst hm
                  exact eb_lret X hw rfl rfl rfl dX0_multipliedWord_103
                · have hm := (if_pos h10).symm.trans hm
                  refine lv_iload_n hx hb dX0_multipliedWord_94 rfl (lv_at hl 1 rfl) ?_
                  refine lv_i2l (v := a1.toInt64) hx hb dX0_multipliedWord_95 rfl ?_
                  refine lv_goto (tgt := 103) hx hb dX0_multipliedWord_96 (by decide) ?_
                  subst hm
                  exact eb_lret X hw rfl rfl rfl dX0_multipliedWord_103
              · have hm := (if_neg h9).symm.trans hm
                refine lv_tableOut (tgt := 104) hx hb dX0_multipliedWord_1 (by have qh1 := lv_neT h1 (a := 0) (by decide); have qh2 := lv_neT h2 (a := 1) (by decide); have qh3 := lv_neT h3 (a := 2) (by decide); have qh4 := lv_neT h4 (a := 3) (by decide); have qh5 := lv_neT h5 (a := 4) (by decide); have qh7 := lv_neT h7 (a := 5) (by decide); have qh9 := lv_neT h9 (a := 6) (by decide); omega) (by decide) ?_
                exact k_X0_multipliedWord_104 X   σ a1 a2 hm hw (lv_sub hl [1, 2] rfl)

set_option maxHeartbeats 4000000 in
set_option maxRecDepth 100000 in
theorem c_X0_quotientWithoutSign (l : Launch) (D : va_G) (cy : Nat → ClassId) (ad : Nat → Nat) (σ : eb_St) (a0 : Int64) (a1 : Int64)  : eb_M l yX0_quotientWithoutSign (Cond.code yX0_quotientWithoutSign cX0_quotientWithoutSign 8 (some .long) :: wsL_law) 2 46 D 33 cy cL ad σ [.long a0, .long a1] (some (.long (m_X0_quotientWithoutSign a0 a1))) σ := by
  refine eb_start (own := RX0) (by decide) rfl rfl (Nat.le_of_ble_eq_true rfl) ?_
  intro p e s m args below meth c A ls X hw hl
  have hl : lv_has ls 8 [(0, .long a0), (2, .long a1)] := hl
  have hx := X.1.1
  have hb := X.1.2.1
  have hown := X.1.2.2.2.1
  have hts := X.1.2.2.2.2
  generalize hm : m_X0_quotientWithoutSign a0 a1 = mm
  have hm : (if a1 = 0 then (-1) else (if (0 : Int64) ≤ a1 then (fun (x3 : Int64) => (fun (x4 : Int64) => (fun (z5 : Int32) => (if 0 ≤ z5 then x3 + 1 else x3)) (m_J13_compareUnsigned_74951 x4 a1)) (a0 - (x3 * a1))) (eb_lshl ((eb_lushr a0 1) / a1) 1) else (fun (z7 : Int32) => (if 0 ≤ z7 then 1 else 0)) (m_J13_compareUnsigned_74951 a0 a1))) = mm := hm
  refine lv_lload_n hx hb dX0_quotientWithoutSign_0 rfl (lv_at hl 1 rfl) ?_
  refine lv_lconst (v := 0) hx hb dX0_quotientWithoutSign_1 (by decide) ?_
  refine eb_lif_ne (tgt := 10) hx hb dX0_quotientWithoutSign_2 dX0_quotientWithoutSign_3 (by decide) (fun h1 => ?_) (fun h1 => ?_)
  · have hm := (if_neg h1).symm.trans hm
    refine lv_lload_n hx hb dX0_quotientWithoutSign_10 rfl (lv_at hl 1 rfl) ?_
    refine lv_lconst (v := 0) hx hb dX0_quotientWithoutSign_11 (by decide) ?_
    refine eb_lif_ge (tgt := 30) hx hb dX0_quotientWithoutSign_12 dX0_quotientWithoutSign_13 (by decide) (fun h2 => ?_) (fun h2 => ?_)
    · have hm := (if_pos h2).symm.trans hm
      refine lv_lload_n hx hb dX0_quotientWithoutSign_30 rfl (lv_at hl 0 rfl) ?_
      refine lv_iconst (v := 1) hx hb dX0_quotientWithoutSign_31 (by decide) ?_
      refine lv_lushr (v := eb_lushr a0 1) hx hb dX0_quotientWithoutSign_32 rfl ?_
      refine lv_lload_n hx hb dX0_quotientWithoutSign_33 rfl (lv_at hl 1 rfl) ?_
      refine lv_ldiv hx hb dX0_quotientWithoutSign_34 (by assumption) ?_
      refine lv_iconst (v := 1) hx hb dX0_quotientWithoutSign_35 (by decide) ?_
      refine lv_lshl (v := eb_lshl ((eb_lushr a0 1) / a1) 1) hx hb dX0_quotientWithoutSign_36 rfl ?_
      refine lv_topl (fun x3 ex3 => ?_)
      have hm : (fun (x4 : Int64) => (fun (z5 : Int32) => (if 0 ≤ z5 then x3 + 1 else x3)) (m_J13_compareUnsigned_74951 x4 a1)) (a0 - (x3 * a1)) = mm := by rw [ex3]; exact hm
      refine lv_lstore (lv' := [(4, .long x3), (0, .long a0), (2, .long a1)]) hx hb dX0_quotientWithoutSign_37 hl (by decide) rfl (fun ls hl => ?_)
      refine lv_lload_n hx hb dX0_quotientWithoutSign_39 rfl (lv_at hl 1 rfl) ?_
      refine lv_lload hx hb dX0_quotientWithoutSign_40 (lv_at hl 0 rfl) ?_
      refine lv_lload_n hx hb dX0_quotientWithoutSign_42 rfl (lv_at hl 2 rfl) ?_
      refine lv_lmul hx hb dX0_quotientWithoutSign_43 ?_
      refine lv_lsub hx hb dX0_quotientWithoutSign_44 ?_
      refine lv_topl (fun x4 ex4 => ?_)
      have hm : (fun (z5 : Int32) => (if 0 ≤ z5 then x3 + 1 else x3)) (m_J13_compareUnsigned_74951 x4 a1) = mm := by rw [ex4]; exact hm
      refine lv_lstore (lv' := [(6, .long x4), (4, .long x3), (0, .long a0), (2, .long a1)]) hx hb dX0_quotientWithoutSign_45 hl (by decide) rfl (fun ls hl => ?_)
      refine lv_lload hx hb dX0_quotientWithoutSign_47 (lv_at hl 0 rfl) ?_
      refine lv_lload_n hx hb dX0_quotientWithoutSign_49 rfl (lv_at hl 3 rfl) ?_
      obtain ⟨z5, qz5⟩ : ∃ t : Int32, t = m_J13_compareUnsigned_74951 x4 a1 := ⟨_, rfl⟩
      have hm : (if 0 ≤ z5 then x3 + 1 else x3) = mm := by rw [qz5]; exact hm
      have hc : eb_M l yJ13_compareUnsigned_74951 (Cond.code yJ13_compareUnsigned_74951 cJ13_compareUnsigned_74951 4 (some .int) :: wsL_law) 1 23 D 33 cy cL ad σ [.long x4, .long a1] (some (.int z5)) σ := by rw [qz5]; exact c_J13_compareUnsigned_74951 l D cy ad σ x4 a1
      refine eb_callS (n := 2) X hw hl.1 (rest := []) hc (eb_goodS wi_16_20 wi_16_21 wi_16_22 wi_16_23) rfl (by decide +kernel) ⟨by decide, by decide⟩ rfl rfl (Nat.le_of_ble_eq_true rfl) dX0_quotientWithoutSign_50 ⟨by decide, by decide⟩ (st' := [.int z5]) rfl (fun H locs hw => ?_)
      refine lv_if_ge (tgt := 61) hx hb dX0_quotientWithoutSign_53 (by decide) (fun h6 => ?_) (fun h6 => ?_)
      · have hm := (if_pos h6).symm.trans hm
        refine lv_lload hx hb dX0_quotientWithoutSign_61 (lv_at hl 1 rfl) ?_
        refine lv_lconst (v := 1) hx hb dX0_quotientWithoutSign_63 (by decide) ?_
        refine lv_ladd hx hb dX0_quotientWithoutSign_64 ?_
        subst hm
        exact eb_lret X hw rfl rfl rfl dX0_quotientWithoutSign_65
      · have hm := (if_neg h6).symm.trans hm
        refine lv_lload hx hb dX0_quotientWithoutSign_56 (lv_at hl 1 rfl) ?_
        refine lv_goto (tgt := 65) hx hb dX0_quotientWithoutSign_58 (by decide) ?_
        subst hm
        exact eb_lret X hw rfl rfl rfl dX0_quotientWithoutSign_65
    · have hm := (if_neg h2).symm.trans hm
      refine lv_lload_n hx hb dX0_quotientWithoutSign_16 rfl (lv_at hl 0 rfl) ?_
      refine lv_lload_n hx hb dX0_quotientWithoutSign_17 rfl (lv_at hl 1 rfl) ?_
      obtain ⟨z7, qz7⟩ : ∃ t : Int32, t = m_J13_compareUnsigned_74951 a0 a1 := ⟨_, rfl⟩
      have hm : (if 0 ≤ z7 then 1 else 0) = mm := by rw [qz7]; exact hm
      have hc : eb_M l yJ13_compareUnsigned_74951 (Cond.code yJ13_compareUnsigned_74951 cJ13_compareUnsigned_74951 4 (some .int) :: wsL_law) 1 23 D 33 cy cL ad σ [.long a0, .long a1] (some (.int z7)) σ := by rw [qz7]; exact c_J13_compareUnsigned_74951 l D cy ad σ a0 a1
      refine eb_callS (n := 2) X hw hl.1 (rest := []) hc (eb_goodS wi_16_20 wi_16_21 wi_16_22 wi_16_23) rfl (by decide +kernel) ⟨by decide, by decide⟩ rfl rfl (Nat.le_of_ble_eq_true rfl) dX0_quotientWithoutSign_18 ⟨by decide, by decide⟩ (st' := [.int z7]) rfl (fun H locs hw => ?_)
      refine lv_if_ge (tgt := 28) hx hb dX0_quotientWithoutSign_21 (by decide) (fun h8 => ?_) (fun h8 => ?_)
      · have hm := (if_pos h8).symm.trans hm
        refine lv_lconst (v := 1) hx hb dX0_quotientWithoutSign_28 (by decide) ?_
        subst hm
        exact eb_lret X hw rfl rfl rfl dX0_quotientWithoutSign_29
      · have hm := (if_neg h8).symm.trans hm
        refine lv_lconst (v := 0) hx hb dX0_quotientWithoutSign_24 (by decide) ?_
        refine lv_goto (tgt := 29) hx hb dX0_quotientWithoutSign_25 (by decide) ?_
        subst hm
        exact eb_lret X hw rfl rfl rfl dX0_quotientWithoutSign_29
  · have hm := (if_pos h1).symm.trans hm
    refine lv_ldc2 hx hb hown (hts _ (List.mem_cons_of_mem _ wi_18_10)) dX0_quotientWithoutSign_6 ?_
    subst hm
    exact eb_lret X hw rfl rfl rfl dX0_quotientWithoutSign_9

set_option maxHeartbeats 4000000 in
set_option maxRecDepth 100000 in
theorem c_X0_divided (l : Launch) (D : va_G) (cy : Nat → ClassId) (ad : Nat → Nat) (σ : eb_St) (a0 : Int32) (a1 : Int64) (a2 : Int64)  : eb_M l yX0_divided (Cond.code yX0_divided cX0_divided 5 (some .long) :: wsL_law) 3 73 D 33 cy cL ad σ [.int a0, .long a1, .long a2] (some (.long (m_X0_divided a0 a1 a2))) σ := by
  refine eb_start (own := RX0) (by decide) rfl rfl (Nat.le_of_ble_eq_true rfl) ?_
  intro p e s m args below meth c A ls X hw hl
  have hl : lv_has ls 5 [(0, .int a0), (1, .long a1), (3, .long a2)] := hl
  have hx := X.1.1
  have hb := X.1.2.1
  have hown := X.1.2.2.2.1
  have hts := X.1.2.2.2.2
  generalize hm : m_X0_divided a0 a1 a2 = mm
  have hm : (if a0 = 4 then (if a2 = 0 then (-1) else a1 / a2) else if a0 = 5 then (fun (z4 : Int64) => z4) (m_X0_quotientWithoutSign a1 a2) else if a0 = 6 then (if a2 = 0 then a1 else a1 - a1 / a2 * a2) else (if a2 = 0 then a1 else (fun (z8 : Int64) => a1 - (z8 * a2)) (m_X0_quotientWithoutSign a1 a2))) = mm := hm
  refine lv_iload_n hx hb dX0_divided_0 rfl (lv_at hl 0 rfl) ?_
  by_cases h1 : a0 = 4
  · have hm := (if_pos h1).symm.trans hm
    refine lv_tableIn (off := 27) (tgt := 28) hx hb dX0_divided_1 (by rw [h1]; decide) (by rw [h1]; decide) (by rw [h1]; rfl) (by decide) ?_
    refine lv_lload_n hx hb dX0_divided_28 rfl (lv_at hl 2 rfl) ?_
    refine lv_lconst (v := 0) hx hb dX0_divided_29 (by decide) ?_
    refine eb_lif_ne (tgt := 40) hx hb dX0_divided_30 dX0_divided_31 (by decide) (fun h2 => ?_) (fun h2 => ?_)
    · have hm := (if_neg h2).symm.trans hm
      refine lv_lload_n hx hb dX0_divided_40 rfl (lv_at hl 1 rfl) ?_
      refine lv_lload_n hx hb dX0_divided_41 rfl (lv_at hl 2 rfl) ?_
      refine lv_ldiv hx hb dX0_divided_42 (by assumption) ?_
      subst hm
      exact eb_lret X hw rfl rfl rfl dX0_divided_43
    · have hm := (if_pos h2).symm.trans hm
      refine lv_ldc2 hx hb hown (hts _ (List.mem_cons_of_mem _ wi_18_10)) dX0_divided_34 ?_
      refine lv_goto (tgt := 43) hx hb dX0_divided_37 (by decide) ?_
      subst hm
      exact eb_lret X hw rfl rfl rfl dX0_divided_43
  · have hm := (if_neg h1).symm.trans hm
    by_cases h3 : a0 = 5
    · have hm := (if_pos h3).symm.trans hm
      refine lv_tableIn (off := 43) (tgt := 44) hx hb dX0_divided_1 (by rw [h3]; decide) (by rw [h3]; decide) (by rw [h3]; rfl) (by decide) ?_
      refine lv_lload_n hx hb dX0_divided_44 rfl (lv_at hl 1 rfl) ?_
      refine lv_lload_n hx hb dX0_divided_45 rfl (lv_at hl 2 rfl) ?_
      obtain ⟨z4, qz4⟩ : ∃ t : Int64, t = m_X0_quotientWithoutSign a1 a2 := ⟨_, rfl⟩
      have hm : z4 = mm := by rw [qz4]; exact hm
      have hc : eb_M l yX0_quotientWithoutSign (Cond.code yX0_quotientWithoutSign cX0_quotientWithoutSign 8 (some .long) :: wsL_law) 2 46 D 33 cy cL ad σ [.long a1, .long a2] (some (.long z4)) σ := by rw [qz4]; exact c_X0_quotientWithoutSign l D cy ad σ a1 a2
      refine eb_callS (n := 2) X hw hl.1 (rest := []) hc (eb_goodS wi_18_11 wi_18_12 wi_16_18 wi_18_13) rfl (by decide +kernel) ⟨by decide, by decide⟩ rfl rfl (Nat.le_of_ble_eq_true rfl) dX0_divided_46 ⟨by decide, by decide⟩ (st' := [.long z4]) rfl (fun H locs hw => ?_)
      subst hm
      exact eb_lret X hw rfl rfl rfl dX0_divided_49
    · have hm := (if_neg h3).symm.trans hm
      by_cases h5 : a0 = 6
      · have hm := (if_pos h5).symm.trans hm
        refine lv_tableIn (off := 49) (tgt := 50) hx hb dX0_divided_1 (by rw [h5]; decide) (by rw [h5]; decide) (by rw [h5]; rfl) (by decide) ?_
        refine lv_lload_n hx hb dX0_divided_50 rfl (lv_at hl 2 rfl) ?_
        refine lv_lconst (v := 0) hx hb dX0_divided_51 (by decide) ?_
        refine eb_lif_ne (tgt := 60) hx hb dX0_divided_52 dX0_divided_53 (by decide) (fun h6 => ?_) (fun h6 => ?_)
        · have hm := (if_neg h6).symm.trans hm
          refine lv_lload_n hx hb dX0_divided_60 rfl (lv_at hl 1 rfl) ?_
          refine lv_lload_n hx hb dX0_divided_61 rfl (lv_at hl 2 rfl) ?_
          refine lv_lrem hx hb dX0_divided_62 (by assumption) ?_
          subst hm
          exact eb_lret X hw rfl rfl rfl dX0_divided_63
        · have hm := (if_pos h6).symm.trans hm
          refine lv_lload_n hx hb dX0_divided_56 rfl (lv_at hl 1 rfl) ?_
          refine lv_goto (tgt := 63) hx hb dX0_divided_57 (by decide) ?_
          subst hm
          exact eb_lret X hw rfl rfl rfl dX0_divided_63
      · have hm := (if_neg h5).symm.trans hm
        refine lv_tableOut (tgt := 64) hx hb dX0_divided_1 (by have qh1 := lv_neT h1 (a := 4) (by decide); have qh3 := lv_neT h3 (a := 5) (by decide); have qh5 := lv_neT h5 (a := 6) (by decide); omega) (by decide) ?_
        refine lv_lload_n hx hb dX0_divided_64 rfl (lv_at hl 2 rfl) ?_
        refine lv_lconst (v := 0) hx hb dX0_divided_65 (by decide) ?_
        refine eb_lif_ne (tgt := 74) hx hb dX0_divided_66 dX0_divided_67 (by decide) (fun h7 => ?_) (fun h7 => ?_)
        · have hm := (if_neg h7).symm.trans hm
          refine lv_lload_n hx hb dX0_divided_74 rfl (lv_at hl 1 rfl) ?_
          refine lv_lload_n hx hb dX0_divided_75 rfl (lv_at hl 1 rfl) ?_
          refine lv_lload_n hx hb dX0_divided_76 rfl (lv_at hl 2 rfl) ?_
          obtain ⟨z8, qz8⟩ : ∃ t : Int64, t = m_X0_quotientWithoutSign a1 a2 := ⟨_, rfl⟩
          have hm : a1 - (z8 * a2) = mm := by rw [qz8]; exact hm
          have hc : eb_M l yX0_quotientWithoutSign (Cond.code yX0_quotientWithoutSign cX0_quotientWithoutSign 8 (some .long) :: wsL_law) 2 46 D 33 cy cL ad σ [.long a1, .long a2] (some (.long z8)) σ := by rw [qz8]; exact c_X0_quotientWithoutSign l D cy ad σ a1 a2
          refine eb_callS (n := 2) X hw hl.1 (rest := [.long a1]) hc (eb_goodS wi_18_11 wi_18_12 wi_16_18 wi_18_13) rfl (by decide +kernel) ⟨by decide, by decide⟩ rfl rfl (Nat.le_of_ble_eq_true rfl) dX0_divided_77 ⟨by decide, by decide⟩ (st' := [.long z8, .long a1]) rfl (fun H locs hw => ?_)
          refine lv_lload_n hx hb dX0_divided_80 rfl (lv_at hl 2 rfl) ?_
          refine lv_lmul hx hb dX0_divided_81 ?_
          refine lv_lsub hx hb dX0_divided_82 ?_
          subst hm
          exact eb_lret X hw rfl rfl rfl dX0_divided_83
        · have hm := (if_pos h7).symm.trans hm
          refine lv_lload_n hx hb dX0_divided_70 rfl (lv_at hl 1 rfl) ?_
          refine lv_goto (tgt := 83) hx hb dX0_divided_71 (by decide) ?_
          subst hm
          exact eb_lret X hw rfl rfl rfl dX0_divided_83

set_option maxHeartbeats 4000000 in
set_option maxRecDepth 100000 in
theorem k_X0_holds_106 {p : Program} {l : Launch} {e : Env} {s : State} {m : MethodId} {args : Array Value} {below : List Frame} {meth : Method} {c : Code} {A : Nat → Prop} {H : Heap} {locs : List Loc} {ls : Array Slot} {D : va_G} {cy : Nat → ClassId} {ad : Nat → Nat} (X : eb_X p s m args meth c cX0_holds 5 RX0 (Cond.code yX0_holds cX0_holds 5 (some .boolean) :: wsL_law) (some .boolean) D cy A)   (σ : eb_St) (v1 : Int64) (v3 : Int64)  {mm : Bool} (hm : (m_X0_holds_106  v1 v3) = mm) (hw : eb_H D 33 cy cL ad A s.heap σ H locs) (hl : lv_has ls 5 [(1, .long v1), (3, .long v3)]) : W p l e ({ frames := 2, cells := 0, slots := 0, locals := 46 } : Room) s m args below meth c H locs 0 0 (MQ below (eb_Q D 33 cy cL ad A (some (.int (eb_b mm))) σ) args s 0 0 A) (F0 m 106 ls []) := by
  have hx := X.1.1
  have hb := X.1.2.1
  have hown := X.1.2.2.2.1
  have hts := X.1.2.2.2.2
  have hm : (fun (z14 : Int32) => (if z14 < 0 then false else true)) (m_J13_compareUnsigned_74951 v1 v3) = mm := hm
  refine lv_lload_n hx hb dX0_holds_106 rfl (lv_at hl 0 rfl) ?_
  refine lv_lload_n hx hb dX0_holds_107 rfl (lv_at hl 1 rfl) ?_
  obtain ⟨z14, qz14⟩ : ∃ t : Int32, t = m_J13_compareUnsigned_74951 v1 v3 := ⟨_, rfl⟩
  have hm : (if z14 < 0 then false else true) = mm := by rw [qz14]; exact hm
  have hc : eb_M l yJ13_compareUnsigned_74951 (Cond.code yJ13_compareUnsigned_74951 cJ13_compareUnsigned_74951 4 (some .int) :: wsL_law) 1 23 D 33 cy cL ad σ [.long v1, .long v3] (some (.int z14)) σ := by rw [qz14]; exact c_J13_compareUnsigned_74951 l D cy ad σ v1 v3
  refine eb_callS (n := 2) X hw hl.1 (rest := []) hc (eb_goodS wi_16_20 wi_16_21 wi_16_22 wi_16_23) rfl (by decide +kernel) ⟨by decide, by decide⟩ rfl rfl (Nat.le_of_ble_eq_true rfl) dX0_holds_108 ⟨by decide, by decide⟩ (st' := [.int z14]) rfl (fun H locs hw => ?_)
  refine lv_if_lt (tgt := 118) hx hb dX0_holds_111 (by decide) (fun h15 => ?_) (fun h15 => ?_)
  · have hm := (if_pos h15).symm.trans hm
    refine lv_iconst (v := 0) hx hb dX0_holds_118 (by decide) ?_
    subst hm
    exact eb_zret X hw rfl rfl rfl rfl dX0_holds_119
  · have hm := (if_neg h15).symm.trans hm
    refine lv_iconst (v := 1) hx hb dX0_holds_114 (by decide) ?_
    refine lv_goto (tgt := 119) hx hb dX0_holds_115 (by decide) ?_
    subst hm
    exact eb_zret X hw rfl rfl rfl rfl dX0_holds_119
set_option maxHeartbeats 4000000 in
set_option maxRecDepth 100000 in
theorem c_X0_holds (l : Launch) (D : va_G) (cy : Nat → ClassId) (ad : Nat → Nat) (σ : eb_St) (a0 : Int32) (a1 : Int64) (a2 : Int64)  : eb_M l yX0_holds (Cond.code yX0_holds cX0_holds 5 (some .boolean) :: wsL_law) 2 46 D 33 cy cL ad σ [.int a0, .long a1, .long a2] (some (.int (eb_b (m_X0_holds a0 a1 a2)))) σ := by
  refine eb_start (own := RX0) (by decide) rfl rfl (Nat.le_of_ble_eq_true rfl) ?_
  intro p e s m args below meth c A ls X hw hl
  have hl : lv_has ls 5 [(0, .int a0), (1, .long a1), (3, .long a2)] := hl
  have hx := X.1.1
  have hb := X.1.2.1
  have hown := X.1.2.2.2.1
  have hts := X.1.2.2.2.2
  generalize hm : m_X0_holds a0 a1 a2 = mm
  have hm : (if a0 = 0 then (if a1 = a2 then true else false) else if a0 = 1 then (if a1 = a2 then false else true) else if a0 = 2 then m_X0_holds_106  a1 a2 else if a0 = 3 then m_X0_holds_106  a1 a2 else if a0 = 4 then (if a2 ≤ a1 then false else true) else if a0 = 5 then (if a1 < a2 then false else true) else if a0 = 6 then (fun (z12 : Int32) => (if 0 ≤ z12 then false else true)) (m_J13_compareUnsigned_74951 a1 a2) else m_X0_holds_106  a1 a2) = mm := hm
  refine lv_iload_n hx hb dX0_holds_0 rfl (lv_at hl 0 rfl) ?_
  by_cases h1 : a0 = 0
  · have hm := (if_pos h1).symm.trans hm
    refine lv_tableIn (off := 43) (tgt := 44) hx hb dX0_holds_1 (by rw [h1]; decide) (by rw [h1]; decide) (by rw [h1]; rfl) (by decide) ?_
    refine lv_lload_n hx hb dX0_holds_44 rfl (lv_at hl 1 rfl) ?_
    refine lv_lload_n hx hb dX0_holds_45 rfl (lv_at hl 2 rfl) ?_
    refine eb_lif_ne (tgt := 54) hx hb dX0_holds_46 dX0_holds_47 (by decide) (fun h2 => ?_) (fun h2 => ?_)
    · have hm := (if_neg h2).symm.trans hm
      refine lv_iconst (v := 0) hx hb dX0_holds_54 (by decide) ?_
      subst hm
      exact eb_zret X hw rfl rfl rfl rfl dX0_holds_55
    · have hm := (if_pos h2).symm.trans hm
      refine lv_iconst (v := 1) hx hb dX0_holds_50 (by decide) ?_
      refine lv_goto (tgt := 55) hx hb dX0_holds_51 (by decide) ?_
      subst hm
      exact eb_zret X hw rfl rfl rfl rfl dX0_holds_55
  · have hm := (if_neg h1).symm.trans hm
    by_cases h3 : a0 = 1
    · have hm := (if_pos h3).symm.trans hm
      refine lv_tableIn (off := 55) (tgt := 56) hx hb dX0_holds_1 (by rw [h3]; decide) (by rw [h3]; decide) (by rw [h3]; rfl) (by decide) ?_
      refine lv_lload_n hx hb dX0_holds_56 rfl (lv_at hl 1 rfl) ?_
      refine lv_lload_n hx hb dX0_holds_57 rfl (lv_at hl 2 rfl) ?_
      refine eb_lif_eq (tgt := 66) hx hb dX0_holds_58 dX0_holds_59 (by decide) (fun h4 => ?_) (fun h4 => ?_)
      · have hm := (if_pos h4).symm.trans hm
        refine lv_iconst (v := 0) hx hb dX0_holds_66 (by decide) ?_
        subst hm
        exact eb_zret X hw rfl rfl rfl rfl dX0_holds_67
      · have hm := (if_neg h4).symm.trans hm
        refine lv_iconst (v := 1) hx hb dX0_holds_62 (by decide) ?_
        refine lv_goto (tgt := 67) hx hb dX0_holds_63 (by decide) ?_
        subst hm
        exact eb_zret X hw rfl rfl rfl rfl dX0_holds_67
    · have hm := (if_neg h3).symm.trans hm
      by_cases h5 : a0 = 2
      · have hm := (if_pos h5).symm.trans hm
        refine lv_tableIn (off := 105) (tgt := 106) hx hb dX0_holds_1 (by rw [h5]; decide) (by rw [h5]; decide) (by rw [h5]; rfl) (by decide) ?_
        exact k_X0_holds_106 X   σ a1 a2 hm hw (lv_sub hl [1, 2] rfl)
      · have hm := (if_neg h5).symm.trans hm
        by_cases h6 : a0 = 3
        · have hm := (if_pos h6).symm.trans hm
          refine lv_tableIn (off := 105) (tgt := 106) hx hb dX0_holds_1 (by rw [h6]; decide) (by rw [h6]; decide) (by rw [h6]; rfl) (by decide) ?_
          exact k_X0_holds_106 X   σ a1 a2 hm hw (lv_sub hl [1, 2] rfl)
        · have hm := (if_neg h6).symm.trans hm
          by_cases h7 : a0 = 4
          · have hm := (if_pos h7).symm.trans hm
            refine lv_tableIn (off := 67) (tgt := 68) hx hb dX0_holds_1 (by rw [h7]; decide) (by rw [h7]; decide) (by rw [h7]; rfl) (by decide) ?_
            refine lv_lload_n hx hb dX0_holds_68 rfl (lv_at hl 1 rfl) ?_
            refine lv_lload_n hx hb dX0_holds_69 rfl (lv_at hl 2 rfl) ?_
            refine eb_lif_ge (tgt := 78) hx hb dX0_holds_70 dX0_holds_71 (by decide) (fun h8 => ?_) (fun h8 => ?_)
            · have hm := (if_pos h8).symm.trans hm
              refine lv_iconst (v := 0) hx hb dX0_holds_78 (by decide) ?_
              subst hm
              exact eb_zret X hw rfl rfl rfl rfl dX0_holds_79
            · have hm := (if_neg h8).symm.trans hm
              refine lv_iconst (v := 1) hx hb dX0_holds_74 (by decide) ?_
              refine lv_goto (tgt := 79) hx hb dX0_holds_75 (by decide) ?_
              subst hm
              exact eb_zret X hw rfl rfl rfl rfl dX0_holds_79
          · have hm := (if_neg h7).symm.trans hm
            by_cases h9 : a0 = 5
            · have hm := (if_pos h9).symm.trans hm
              refine lv_tableIn (off := 79) (tgt := 80) hx hb dX0_holds_1 (by rw [h9]; decide) (by rw [h9]; decide) (by rw [h9]; rfl) (by decide) ?_
              refine lv_lload_n hx hb dX0_holds_80 rfl (lv_at hl 1 rfl) ?_
              refine lv_lload_n hx hb dX0_holds_81 rfl (lv_at hl 2 rfl) ?_
              refine eb_lif_lt (tgt := 90) hx hb dX0_holds_82 dX0_holds_83 (by decide) (fun h10 => ?_) (fun h10 => ?_)
              · have hm := (if_pos h10).symm.trans hm
                refine lv_iconst (v := 0) hx hb dX0_holds_90 (by decide) ?_
                subst hm
                exact eb_zret X hw rfl rfl rfl rfl dX0_holds_91
              · have hm := (if_neg h10).symm.trans hm
                refine lv_iconst (v := 1) hx hb dX0_holds_86 (by decide) ?_
                refine lv_goto (tgt := 91) hx hb dX0_holds_87 (by decide) ?_
                subst hm
                exact eb_zret X hw rfl rfl rfl rfl dX0_holds_91
            · have hm := (if_neg h9).symm.trans hm
              by_cases h11 : a0 = 6
              · have hm := (if_pos h11).symm.trans hm
                refine lv_tableIn (off := 91) (tgt := 92) hx hb dX0_holds_1 (by rw [h11]; decide) (by rw [h11]; decide) (by rw [h11]; rfl) (by decide) ?_
                refine lv_lload_n hx hb dX0_holds_92 rfl (lv_at hl 1 rfl) ?_
                refine lv_lload_n hx hb dX0_holds_93 rfl (lv_at hl 2 rfl) ?_
                obtain ⟨z12, qz12⟩ : ∃ t : Int32, t = m_J13_compareUnsigned_74951 a1 a2 := ⟨_, rfl⟩
                have hm : (if 0 ≤ z12 then false else true) = mm := by rw [qz12]; exact hm
                have hc : eb_M l yJ13_compareUnsigned_74951 (Cond.code yJ13_compareUnsigned_74951 cJ13_compareUnsigned_74951 4 (some .int) :: wsL_law) 1 23 D 33 cy cL ad σ [.long a1, .long a2] (some (.int z12)) σ := by rw [qz12]; exact c_J13_compareUnsigned_74951 l D cy ad σ a1 a2
                refine eb_callS (n := 2) X hw hl.1 (rest := []) hc (eb_goodS wi_16_20 wi_16_21 wi_16_22 wi_16_23) rfl (by decide +kernel) ⟨by decide, by decide⟩ rfl rfl (Nat.le_of_ble_eq_true rfl) dX0_holds_94 ⟨by decide, by decide⟩ (st' := [.int z12]) rfl (fun H locs hw => ?_)
                refine lv_if_ge (tgt := 104) hx hb dX0_holds_97 (by decide) (fun h13 => ?_) (fun h13 => ?_)
                · have hm := (if_pos h13).symm.trans hm
                  refine lv_iconst (v := 0) hx hb dX0_holds_104 (by decide) ?_
                  subst hm
                  exact eb_zret X hw rfl rfl rfl rfl dX0_holds_105
                · have hm := (if_neg h13).symm.trans hm
                  refine lv_iconst (v := 1) hx hb dX0_holds_100 (by decide) ?_
                  refine lv_goto (tgt := 105) hx hb dX0_holds_101 (by decide) ?_
                  subst hm
                  exact eb_zret X hw rfl rfl rfl rfl dX0_holds_105
              · have hm := (if_neg h11).symm.trans hm
                refine lv_tableOut (tgt := 106) hx hb dX0_holds_1 (by have qh1 := lv_neT h1 (a := 0) (by decide); have qh3 := lv_neT h3 (a := 1) (by decide); have qh5 := lv_neT h5 (a := 2) (by decide); have qh6 := lv_neT h6 (a := 3) (by decide); have qh7 := lv_neT h7 (a := 4) (by decide); have qh9 := lv_neT h9 (a := 5) (by decide); have qh11 := lv_neT h11 (a := 6) (by decide); omega) (by decide) ?_
                exact k_X0_holds_106 X   σ a1 a2 hm hw (lv_sub hl [1, 2] rfl)

set_option maxHeartbeats 4000000 in
set_option maxRecDepth 100000 in
theorem c_X6_clear (l : Launch) (D : va_G) (cy : Nat → ClassId) (ad : Nat → Nat) (σ : eb_St)   : eb_M l yX6_clear (Cond.code yX6_clear cX6_clear 1 none :: wsL_law) 1 24 D 33 cy cL ad σ [.ref (ad 3)] (none) (m_X6_clear σ) := by
  refine eb_start (own := RX6) (by decide) rfl rfl (Nat.le_of_ble_eq_true rfl) ?_
  intro p e s m args below meth c A ls X hw hl
  have hl : lv_has ls 1 [(0, .ref (ad 3))] := hl
  have hx := X.1.1
  have hb := X.1.2.1
  have hown := X.1.2.2.2.1
  have hts := X.1.2.2.2.2
  generalize hm : m_X6_clear σ = mm
  have hm : (fun (z1 : eb_St) => (fun (z2 : eb_St) => (fun (z3 : eb_St) => (fun (z4 : eb_St) => z4) (m_J7_fill_53178 z3 7 16 0)) (m_J7_fill_53178 z2 6 16 0)) (m_J7_fill_d0a16 z1 5 16 0)) (m_J7_fill_53178 σ 4 16 0) = mm := hm
  refine lv_aload_n hx hb dX6_clear_0 rfl (lv_at hl 0 rfl) ?_
  refine eb_get (T := TX6) X hw 3 0 (by decide) ⟨rfl, rfl, rfl⟩ (by decide) (fun _ h => List.mem_cons_of_mem _ (inlX6 _ h)) (List.mem_cons_of_mem _ wi_3_4) (v := .ref (ad 4)) rfl dX6_clear_1 ?_
  refine lv_iconst (v := 0) hx hb dX6_clear_4 (by decide) ?_
  obtain ⟨z1, qz1⟩ : ∃ t : eb_St, t = m_J7_fill_53178 σ 4 16 0 := ⟨_, rfl⟩
  have hm : (fun (z2 : eb_St) => (fun (z3 : eb_St) => (fun (z4 : eb_St) => z4) (m_J7_fill_53178 z3 7 16 0)) (m_J7_fill_53178 z2 6 16 0)) (m_J7_fill_d0a16 z1 5 16 0) = mm := by rw [qz1]; exact hm
  have hc : eb_M l yJ7_fill_53178 (Cond.code yJ7_fill_53178 cJ7_fill_53178 4 none :: wsL_law) 0 0 D 33 cy cL ad σ [.ref (ad 4), .int 0] (none) z1 := by rw [qz1]; exact c_J7_fill_53178 l D cy ad σ 4 16 0 (by decide) rfl rfl (by decide)
  refine eb_callS (n := 2) X hw hl.1 (rest := []) hc (eb_goodS wi_8_6 wi_8_7 wi_7_21 wi_8_8) rfl (by decide +kernel) ⟨by decide, by decide⟩ rfl rfl (Nat.le_of_ble_eq_true rfl) dX6_clear_5 ⟨by decide, by decide⟩ (st' := []) rfl (fun H locs hw => ?_)
  refine lv_aload_n hx hb dX6_clear_8 rfl (lv_at hl 0 rfl) ?_
  refine eb_get (T := TX6) X hw 3 1 (by decide) ⟨rfl, rfl, rfl⟩ (by decide) (fun _ h => List.mem_cons_of_mem _ (inlX6 _ h)) (List.mem_cons_of_mem _ wi_3_5) (v := .ref (ad 5)) rfl dX6_clear_9 ?_
  refine lv_lconst (v := 0) hx hb dX6_clear_12 (by decide) ?_
  obtain ⟨z2, qz2⟩ : ∃ t : eb_St, t = m_J7_fill_d0a16 z1 5 16 0 := ⟨_, rfl⟩
  have hm : (fun (z3 : eb_St) => (fun (z4 : eb_St) => z4) (m_J7_fill_53178 z3 7 16 0)) (m_J7_fill_53178 z2 6 16 0) = mm := by rw [qz2]; exact hm
  have hc : eb_M l yJ7_fill_d0a16 (Cond.code yJ7_fill_d0a16 cJ7_fill_d0a16 5 none :: wsL_law) 0 0 D 33 cy cL ad z1 [.ref (ad 5), .long 0] (none) z2 := by rw [qz2]; exact c_J7_fill_d0a16 l D cy ad z1 5 16 0 (by decide) rfl rfl (by decide)
  refine eb_callS (n := 2) X hw hl.1 (rest := []) hc (eb_goodS wi_8_9 wi_8_10 wi_7_21 wi_8_11) rfl (by decide +kernel) ⟨by decide, by decide⟩ rfl rfl (Nat.le_of_ble_eq_true rfl) dX6_clear_13 ⟨by decide, by decide⟩ (st' := []) rfl (fun H locs hw => ?_)
  refine lv_aload_n hx hb dX6_clear_16 rfl (lv_at hl 0 rfl) ?_
  refine eb_get (T := TX6) X hw 3 2 (by decide) ⟨rfl, rfl, rfl⟩ (by decide) (fun _ h => List.mem_cons_of_mem _ (inlX6 _ h)) (List.mem_cons_of_mem _ wi_3_6) (v := .ref (ad 6)) rfl dX6_clear_17 ?_
  refine lv_iconst (v := 0) hx hb dX6_clear_20 (by decide) ?_
  obtain ⟨z3, qz3⟩ : ∃ t : eb_St, t = m_J7_fill_53178 z2 6 16 0 := ⟨_, rfl⟩
  have hm : (fun (z4 : eb_St) => z4) (m_J7_fill_53178 z3 7 16 0) = mm := by rw [qz3]; exact hm
  have hc : eb_M l yJ7_fill_53178 (Cond.code yJ7_fill_53178 cJ7_fill_53178 4 none :: wsL_law) 0 0 D 33 cy cL ad z2 [.ref (ad 6), .int 0] (none) z3 := by rw [qz3]; exact c_J7_fill_53178 l D cy ad z2 6 16 0 (by decide) rfl rfl (by decide)
  refine eb_callS (n := 2) X hw hl.1 (rest := []) hc (eb_goodS wi_8_6 wi_8_7 wi_7_21 wi_8_8) rfl (by decide +kernel) ⟨by decide, by decide⟩ rfl rfl (Nat.le_of_ble_eq_true rfl) dX6_clear_21 ⟨by decide, by decide⟩ (st' := []) rfl (fun H locs hw => ?_)
  refine lv_aload_n hx hb dX6_clear_24 rfl (lv_at hl 0 rfl) ?_
  refine eb_get (T := TX6) X hw 3 3 (by decide) ⟨rfl, rfl, rfl⟩ (by decide) (fun _ h => List.mem_cons_of_mem _ (inlX6 _ h)) (List.mem_cons_of_mem _ wi_3_7) (v := .ref (ad 7)) rfl dX6_clear_25 ?_
  refine lv_iconst (v := 0) hx hb dX6_clear_28 (by decide) ?_
  obtain ⟨z4, qz4⟩ : ∃ t : eb_St, t = m_J7_fill_53178 z3 7 16 0 := ⟨_, rfl⟩
  have hm : z4 = mm := by rw [qz4]; exact hm
  have hc : eb_M l yJ7_fill_53178 (Cond.code yJ7_fill_53178 cJ7_fill_53178 4 none :: wsL_law) 0 0 D 33 cy cL ad z3 [.ref (ad 7), .int 0] (none) z4 := by rw [qz4]; exact c_J7_fill_53178 l D cy ad z3 7 16 0 (by decide) rfl rfl (by decide)
  refine eb_callS (n := 2) X hw hl.1 (rest := []) hc (eb_goodS wi_8_6 wi_8_7 wi_7_21 wi_8_8) rfl (by decide +kernel) ⟨by decide, by decide⟩ rfl rfl (Nat.le_of_ble_eq_true rfl) dX6_clear_29 ⟨by decide, by decide⟩ (st' := []) rfl (fun H locs hw => ?_)
  subst hm
  exact eb_vret X hw rfl rfl dX6_clear_32

set_option maxHeartbeats 4000000 in
set_option maxRecDepth 100000 in
theorem c_X6_napot (l : Launch) (D : va_G) (cy : Nat → ClassId) (ad : Nat → Nat) (σ : eb_St) (a0 : Int32) (a1 : Int32)  : eb_M l yX6_napot (Cond.code yX6_napot cX6_napot 2 (some .long) :: wsL_law) 0 0 D 33 cy cL ad σ [.int a0, .int a1] (some (.long (m_X6_napot a0 a1))) σ := by
  refine eb_start (own := RX6) (by decide) rfl rfl (Nat.le_of_ble_eq_true rfl) ?_
  intro p e s m args below meth c A ls X hw hl
  have hl : lv_has ls 2 [(0, .int a0), (1, .int a1)] := hl
  have hx := X.1.1
  have hb := X.1.2.1
  have hown := X.1.2.2.2.1
  have hts := X.1.2.2.2.2
  generalize hm : m_X6_napot a0 a1 = mm
  have hm : ((a0 / 4) ||| ((a1 / 8) - 1)).toInt64 = mm := hm
  refine lv_iload_n hx hb dX6_napot_0 rfl (lv_at hl 0 rfl) ?_
  refine lv_iconst (v := 4) hx hb dX6_napot_1 (by decide) ?_
  refine lv_idiv hx hb dX6_napot_2 (by decide) ?_
  refine lv_iload_n hx hb dX6_napot_3 rfl (lv_at hl 1 rfl) ?_
  refine lv_bipush (v := 8) hx hb dX6_napot_4 (by decide) ?_
  refine lv_idiv hx hb dX6_napot_6 (by decide) ?_
  refine lv_iconst (v := 1) hx hb dX6_napot_7 (by decide) ?_
  refine lv_isub hx hb dX6_napot_8 ?_
  refine lv_ior hx hb dX6_napot_9 ?_
  refine lv_i2l (v := ((a0 / 4) ||| ((a1 / 8) - 1)).toInt64) hx hb dX6_napot_10 rfl ?_
  subst hm
  exact eb_lret X hw rfl rfl rfl dX6_napot_11

set_option maxHeartbeats 4000000 in
set_option maxRecDepth 100000 in
theorem k_X6_measureOut_154 {p : Program} {l : Launch} {e : Env} {s : State} {m : MethodId} {args : Array Value} {below : List Frame} {meth : Method} {c : Code} {A : Nat → Prop} {H : Heap} {locs : List Loc} {ls : Array Slot} {D : va_G} {cy : Nat → ClassId} {ad : Nat → Nat} (X : eb_X p s m args meth c cX6_measureOut 10 RX6 (Cond.code yX6_measureOut cX6_measureOut 10 none :: wsL_law) none D cy A)   (σ : eb_St) (v1 : Int32) (v4 : Int64) (v6 : Int64) (s0 : Int32) (hi_ : vp_in v1 16) {mm : eb_St} (hm : (m_X6_measureOut_154  σ v1 v4 v6 s0) = mm) (hw : eb_H D 33 cy cL ad A s.heap σ H locs) (hl : lv_has ls 10 [(0, .ref (ad 3)), (1, .int v1), (4, .long v4), (6, .long v6)]) : W p l e ({ frames := 0, cells := 0, slots := 0, locals := 0 } : Room) s m args below meth c H locs 0 0 (MQ below (eb_Q D 33 cy cL ad A (none) mm) args s 0 0 A) (F0 m 154 ls [.int s0]) := by
  have hx := X.1.1
  have hb := X.1.2.1
  have hown := X.1.2.2.2.1
  have hts := X.1.2.2.2.2
  have hm : (if s0 = 0 then (if s0 = 0 then eb_pI (eb_pI σ 6 v1.toNatClampNeg 0) 7 v1.toNatClampNeg 0 else (if (16384 : Int64) ≤ v6 then eb_pI (eb_pI σ 6 v1.toNatClampNeg 0) 7 v1.toNatClampNeg 65536 else eb_pI (eb_pI σ 6 v1.toNatClampNeg 0) 7 v1.toNatClampNeg (v6.toInt32 * 4))) else (if s0 = 0 then eb_pI (eb_pI σ 6 v1.toNatClampNeg (v4.toInt32 * 4)) 7 v1.toNatClampNeg 0 else (if (16384 : Int64) ≤ v6 then eb_pI (eb_pI σ 6 v1.toNatClampNeg (v4.toInt32 * 4)) 7 v1.toNatClampNeg 65536 else eb_pI (eb_pI σ 6 v1.toNatClampNeg (v4.toInt32 * 4)) 7 v1.toNatClampNeg (v6.toInt32 * 4)))) = mm := hm
  refine lv_istore (lv' := [(8, .int s0), (0, .ref (ad 3)), (1, .int v1), (4, .long v4), (6, .long v6)]) hx hb dX6_measureOut_154 hl (by decide) rfl (fun ls hl => ?_)
  refine lv_aload_n hx hb dX6_measureOut_156 rfl (lv_at hl 1 rfl) ?_
  refine eb_get (T := TX6) X hw 3 2 (by decide) ⟨rfl, rfl, rfl⟩ (by decide) (fun _ h => List.mem_cons_of_mem _ (inlX6 _ h)) (List.mem_cons_of_mem _ wi_3_6) (v := .ref (ad 6)) rfl dX6_measureOut_157 ?_
  refine lv_iload_n hx hb dX6_measureOut_160 rfl (lv_at hl 2 rfl) ?_
  refine lv_iload hx hb dX6_measureOut_161 (lv_at hl 0 rfl) ?_
  refine lv_if_eq (tgt := 174) hx hb dX6_measureOut_163 (by decide) (fun h14 => ?_) (fun h14 => ?_)
  · have hm := (if_pos h14).symm.trans hm
    refine lv_iconst (v := 0) hx hb dX6_measureOut_174 (by decide) ?_
    refine eb_iast (n := 16) X hw 6 (by decide) rfl rfl hi_ dX6_measureOut_175 (fun H locs hw => ?_)
    refine lv_aload_n hx hb dX6_measureOut_176 rfl (lv_at hl 1 rfl) ?_
    refine eb_get (T := TX6) X hw 3 3 (by decide) ⟨rfl, rfl, rfl⟩ (by decide) (fun _ h => List.mem_cons_of_mem _ (inlX6 _ h)) (List.mem_cons_of_mem _ wi_3_7) (v := .ref (ad 7)) rfl dX6_measureOut_177 ?_
    refine lv_iload_n hx hb dX6_measureOut_180 rfl (lv_at hl 2 rfl) ?_
    refine lv_iload hx hb dX6_measureOut_181 (lv_at hl 0 rfl) ?_
    refine lv_if_ne (tgt := 190) hx hb dX6_measureOut_183 (by decide) (fun h15 => ?_) (fun h15 => ?_)
    · have hm := (if_neg h15).symm.trans hm
      refine lv_lload hx hb dX6_measureOut_190 (lv_at hl 4 rfl) ?_
      refine lv_ldc2 hx hb hown (hts _ (List.mem_cons_of_mem _ wi_14_1)) dX6_measureOut_192 ?_
      refine eb_lif_ge (tgt := 207) hx hb dX6_measureOut_195 dX6_measureOut_196 (by decide) (fun h16 => ?_) (fun h16 => ?_)
      · have hm := (if_pos h16).symm.trans hm
        refine lv_ldc hx hb hown (hts _ (List.mem_cons_of_mem _ wi_14_2)) dX6_measureOut_207 ?_
        refine eb_iast (n := 16) X hw 7 (by decide) rfl rfl hi_ dX6_measureOut_209 (fun H locs hw => ?_)
        subst hm
        exact eb_vret X hw rfl rfl dX6_measureOut_210
      · have hm := (if_neg h16).symm.trans hm
        refine lv_lload hx hb dX6_measureOut_199 (lv_at hl 4 rfl) ?_
        refine lv_l2i (v := v6.toInt32) hx hb dX6_measureOut_201 rfl ?_
        refine lv_iconst (v := 4) hx hb dX6_measureOut_202 (by decide) ?_
        refine lv_imul hx hb dX6_measureOut_203 ?_
        refine lv_goto (tgt := 209) hx hb dX6_measureOut_204 (by decide) ?_
        refine eb_iast (n := 16) X hw 7 (by decide) rfl rfl hi_ dX6_measureOut_209 (fun H locs hw => ?_)
        subst hm
        exact eb_vret X hw rfl rfl dX6_measureOut_210
    · have hm := (if_pos h15).symm.trans hm
      refine lv_iconst (v := 0) hx hb dX6_measureOut_186 (by decide) ?_
      refine lv_goto (tgt := 209) hx hb dX6_measureOut_187 (by decide) ?_
      refine eb_iast (n := 16) X hw 7 (by decide) rfl rfl hi_ dX6_measureOut_209 (fun H locs hw => ?_)
      subst hm
      exact eb_vret X hw rfl rfl dX6_measureOut_210
  · have hm := (if_neg h14).symm.trans hm
    refine lv_lload hx hb dX6_measureOut_166 (lv_at hl 3 rfl) ?_
    refine lv_l2i (v := v4.toInt32) hx hb dX6_measureOut_168 rfl ?_
    refine lv_iconst (v := 4) hx hb dX6_measureOut_169 (by decide) ?_
    refine lv_imul hx hb dX6_measureOut_170 ?_
    refine lv_goto (tgt := 175) hx hb dX6_measureOut_171 (by decide) ?_
    refine eb_iast (n := 16) X hw 6 (by decide) rfl rfl hi_ dX6_measureOut_175 (fun H locs hw => ?_)
    refine lv_aload_n hx hb dX6_measureOut_176 rfl (lv_at hl 1 rfl) ?_
    refine eb_get (T := TX6) X hw 3 3 (by decide) ⟨rfl, rfl, rfl⟩ (by decide) (fun _ h => List.mem_cons_of_mem _ (inlX6 _ h)) (List.mem_cons_of_mem _ wi_3_7) (v := .ref (ad 7)) rfl dX6_measureOut_177 ?_
    refine lv_iload_n hx hb dX6_measureOut_180 rfl (lv_at hl 2 rfl) ?_
    refine lv_iload hx hb dX6_measureOut_181 (lv_at hl 0 rfl) ?_
    refine lv_if_ne (tgt := 190) hx hb dX6_measureOut_183 (by decide) (fun h17 => ?_) (fun h17 => ?_)
    · have hm := (if_neg h17).symm.trans hm
      refine lv_lload hx hb dX6_measureOut_190 (lv_at hl 4 rfl) ?_
      refine lv_ldc2 hx hb hown (hts _ (List.mem_cons_of_mem _ wi_14_1)) dX6_measureOut_192 ?_
      refine eb_lif_ge (tgt := 207) hx hb dX6_measureOut_195 dX6_measureOut_196 (by decide) (fun h18 => ?_) (fun h18 => ?_)
      · have hm := (if_pos h18).symm.trans hm
        refine lv_ldc hx hb hown (hts _ (List.mem_cons_of_mem _ wi_14_2)) dX6_measureOut_207 ?_
        refine eb_iast (n := 16) X hw 7 (by decide) rfl rfl hi_ dX6_measureOut_209 (fun H locs hw => ?_)
        subst hm
        exact eb_vret X hw rfl rfl dX6_measureOut_210
      · have hm := (if_neg h18).symm.trans hm
        refine lv_lload hx hb dX6_measureOut_199 (lv_at hl 4 rfl) ?_
        refine lv_l2i (v := v6.toInt32) hx hb dX6_measureOut_201 rfl ?_
        refine lv_iconst (v := 4) hx hb dX6_measureOut_202 (by decide) ?_
        refine lv_imul hx hb dX6_measureOut_203 ?_
        refine lv_goto (tgt := 209) hx hb dX6_measureOut_204 (by decide) ?_
        refine eb_iast (n := 16) X hw 7 (by decide) rfl rfl hi_ dX6_measureOut_209 (fun H locs hw => ?_)
        subst hm
        exact eb_vret X hw rfl rfl dX6_measureOut_210
    · have hm := (if_pos h17).symm.trans hm
      refine lv_iconst (v := 0) hx hb dX6_measureOut_186 (by decide) ?_
      refine lv_goto (tgt := 209) hx hb dX6_measureOut_187 (by decide) ?_
      refine eb_iast (n := 16) X hw 7 (by decide) rfl rfl hi_ dX6_measureOut_209 (fun H locs hw => ?_)
      subst hm
      exact eb_vret X hw rfl rfl dX6_measureOut_210
set_option maxHeartbeats 4000000 in
set_option maxRecDepth 100000 in
theorem k_X6_measureOut_153 {p : Program} {l : Launch} {e : Env} {s : State} {m : MethodId} {args : Array Value} {below : List Frame} {meth : Method} {c : Code} {A : Nat → Prop} {H : Heap} {locs : List Loc} {ls : Array Slot} {D : va_G} {cy : Nat → ClassId} {ad : Nat → Nat} (X : eb_X p s m args meth c cX6_measureOut 10 RX6 (Cond.code yX6_measureOut cX6_measureOut 10 none :: wsL_law) none D cy A)   (σ : eb_St) (v1 : Int32) (v4 : Int64) (v6 : Int64) (hi_ : vp_in v1 16) {mm : eb_St} (hm : (m_X6_measureOut_153  σ v1 v4 v6) = mm) (hw : eb_H D 33 cy cL ad A s.heap σ H locs) (hl : lv_has ls 10 [(0, .ref (ad 3)), (1, .int v1), (4, .long v4), (6, .long v6)]) : W p l e ({ frames := 0, cells := 0, slots := 0, locals := 0 } : Room) s m args below meth c H locs 0 0 (MQ below (eb_Q D 33 cy cL ad A (none) mm) args s 0 0 A) (F0 m 153 ls []) := by
  have hx := X.1.1
  have hb := X.1.2.1
  have hown := X.1.2.2.2.1
  have hts := X.1.2.2.2.2
  have hm : m_X6_measureOut_154  σ v1 v4 v6 0 = mm := hm
  refine lv_iconst (v := 0) hx hb dX6_measureOut_153 (by decide) ?_
  exact k_X6_measureOut_154 X   σ v1 v4 v6 0 hi_ hm hw (lv_sub hl [0, 1, 2, 3] rfl)
set_option maxHeartbeats 4000000 in
set_option maxRecDepth 100000 in
theorem k_X6_measureOut_132 {p : Program} {l : Launch} {e : Env} {s : State} {m : MethodId} {args : Array Value} {below : List Frame} {meth : Method} {c : Code} {A : Nat → Prop} {H : Heap} {locs : List Loc} {ls : Array Slot} {D : va_G} {cy : Nat → ClassId} {ad : Nat → Nat} (X : eb_X p s m args meth c cX6_measureOut 10 RX6 (Cond.code yX6_measureOut cX6_measureOut 10 none :: wsL_law) none D cy A)   (σ : eb_St) (v1 : Int32) (v4 : Int64) (v6 : Int64) (hi_ : vp_in v1 16) {mm : eb_St} (hm : (m_X6_measureOut_132  σ v1 v4 v6) = mm) (hw : eb_H D 33 cy cL ad A s.heap σ H locs) (hl : lv_has ls 10 [(0, .ref (ad 3)), (1, .int v1), (4, .long v4), (6, .long v6)]) : W p l e ({ frames := 0, cells := 0, slots := 0, locals := 0 } : Room) s m args below meth c H locs 0 0 (MQ below (eb_Q D 33 cy cL ad A (none) mm) args s 0 0 A) (F0 m 132 ls []) := by
  have hx := X.1.1
  have hb := X.1.2.1
  have hown := X.1.2.2.2.1
  have hts := X.1.2.2.2.2
  have hm : (if v6 ≤ v4 then m_X6_measureOut_153  σ v1 v4 v6 else (if (16384 : Int64) ≤ v4 then m_X6_measureOut_153  σ v1 v4 v6 else m_X6_measureOut_154  σ v1 v4 v6 1)) = mm := hm
  refine lv_lload hx hb dX6_measureOut_132 (lv_at hl 2 rfl) ?_
  refine lv_lload hx hb dX6_measureOut_134 (lv_at hl 3 rfl) ?_
  refine eb_lif_ge (tgt := 153) hx hb dX6_measureOut_136 dX6_measureOut_137 (by decide) (fun h12 => ?_) (fun h12 => ?_)
  · have hm := (if_pos h12).symm.trans hm
    exact k_X6_measureOut_153 X   σ v1 v4 v6 hi_ hm hw (lv_sub hl [0, 1, 2, 3] rfl)
  · have hm := (if_neg h12).symm.trans hm
    refine lv_lload hx hb dX6_measureOut_140 (lv_at hl 2 rfl) ?_
    refine lv_ldc2 hx hb hown (hts _ (List.mem_cons_of_mem _ wi_14_1)) dX6_measureOut_142 ?_
    refine eb_lif_ge (tgt := 153) hx hb dX6_measureOut_145 dX6_measureOut_146 (by decide) (fun h13 => ?_) (fun h13 => ?_)
    · have hm := (if_pos h13).symm.trans hm
      exact k_X6_measureOut_153 X   σ v1 v4 v6 hi_ hm hw (lv_sub hl [0, 1, 2, 3] rfl)
    · have hm := (if_neg h13).symm.trans hm
      refine lv_iconst (v := 1) hx hb dX6_measureOut_149 (by decide) ?_
      refine lv_goto (tgt := 154) hx hb dX6_measureOut_150 (by decide) ?_
      exact k_X6_measureOut_154 X   σ v1 v4 v6 1 hi_ hm hw (lv_sub hl [0, 1, 2, 3] rfl)
set_option maxHeartbeats 4000000 in
set_option maxRecDepth 100000 in
theorem k_X6_measureOut_84 {p : Program} {l : Launch} {e : Env} {s : State} {m : MethodId} {args : Array Value} {below : List Frame} {meth : Method} {c : Code} {A : Nat → Prop} {H : Heap} {locs : List Loc} {ls : Array Slot} {D : va_G} {cy : Nat → ClassId} {ad : Nat → Nat} (X : eb_X p s m args meth c cX6_measureOut 10 RX6 (Cond.code yX6_measureOut cX6_measureOut 10 none :: wsL_law) none D cy A)   (σ : eb_St) (v1 : Int32) (v2 : Int64) (s0 : Int64) (hi_ : vp_in v1 16) {mm : eb_St} (hm : (m_X6_measureOut_84  σ v1 v2 s0) = mm) (hw : eb_H D 33 cy cL ad A s.heap σ H locs) (hl : lv_has ls 10 [(0, .ref (ad 3)), (1, .int v1), (2, .long v2)]) : W p l e ({ frames := 0, cells := 0, slots := 0, locals := 0 } : Room) s m args below meth c H locs 0 0 (MQ below (eb_Q D 33 cy cL ad A (none) mm) args s 0 0 A) (F0 m 84 ls [.long s0]) := by
  have hx := X.1.1
  have hb := X.1.2.1
  have hown := X.1.2.2.2.1
  have hts := X.1.2.2.2.2
  have hm : m_X6_measureOut_132  σ v1 s0 v2 = mm := hm
  refine lv_lstore (lv' := [(4, .long s0), (0, .ref (ad 3)), (1, .int v1), (2, .long v2)]) hx hb dX6_measureOut_84 hl (by decide) rfl (fun ls hl => ?_)
  refine lv_lload_n hx hb dX6_measureOut_86 rfl (lv_at hl 3 rfl) ?_
  refine lv_lstore (lv' := [(6, .long v2), (4, .long s0), (0, .ref (ad 3)), (1, .int v1), (2, .long v2)]) hx hb dX6_measureOut_87 hl (by decide) rfl (fun ls hl => ?_)
  refine lv_goto (tgt := 132) hx hb dX6_measureOut_89 (by decide) ?_
  exact k_X6_measureOut_132 X   σ v1 s0 v2 hi_ hm hw (lv_sub hl [2, 3, 1, 0] rfl)
set_option maxHeartbeats 4000000 in
set_option maxRecDepth 100000 in
theorem c_X6_measureOut (l : Launch) (D : va_G) (cy : Nat → ClassId) (ad : Nat → Nat) (σ : eb_St) (a0 : Int32)  : eb_M l yX6_measureOut (Cond.code yX6_measureOut cX6_measureOut 10 none :: wsL_law) 0 0 D 33 cy cL ad σ [.ref (ad 3), .int a0] (none) (m_X6_measureOut σ a0) := by
  refine eb_start (own := RX6) (by decide) rfl rfl (Nat.le_of_ble_eq_true rfl) ?_
  intro p e s m args below meth c A ls X hw hl
  have hl : lv_has ls 10 [(0, .ref (ad 3)), (1, .int a0)] := hl
  have hx := X.1.1
  have hb := X.1.2.1
  have hown := X.1.2.2.2.1
  have hts := X.1.2.2.2.2
  generalize hm : m_X6_measureOut σ a0 = mm
  have hm : (if a0 < 0 then σ else (if a0 < 16 then (fun (x3 : Int64) => (if ((σ.1 4 a0.toNatClampNeg) &&& 24) = 8 then (if a0 = 0 then m_X6_measureOut_84  σ a0 x3 0 else m_X6_measureOut_84  σ a0 x3 (σ.2 5 (a0 - 1).toNatClampNeg)) else if ((σ.1 4 a0.toNatClampNeg) &&& 24) = 16 then (fun (x7 : Int64) => m_X6_measureOut_132  σ a0 x3 x7) (x3 + 1) else if ((σ.1 4 a0.toNatClampNeg) &&& 24) = 24 then (fun (x9 : Int64) => (fun (x10 : Int64) => (fun (x11 : Int64) => m_X6_measureOut_132  σ a0 x10 x11) ((x10 + x9) + 1)) (x3 &&& (x9 ^^^ (-1)))) (x3 ^^^ (x3 + 1)) else m_X6_measureOut_132  σ a0 0 0)) (σ.2 5 a0.toNatClampNeg) else σ)) = mm := hm
  refine lv_iload_n hx hb dX6_measureOut_0 rfl (lv_at hl 1 rfl) ?_
  refine lv_if_lt (tgt := 10) hx hb dX6_measureOut_1 (by decide) (fun h1 => ?_) (fun h1 => ?_)
  · have hm := (if_pos h1).symm.trans hm
    subst hm
    exact eb_vret X hw rfl rfl dX6_measureOut_10
  · have hm := (if_neg h1).symm.trans hm
    refine lv_iload_n hx hb dX6_measureOut_4 rfl (lv_at hl 1 rfl) ?_
    refine lv_bipush (v := 16) hx hb dX6_measureOut_5 (by decide) ?_
    refine lv_icmp_lt (tgt := 11) hx hb dX6_measureOut_7 (by decide) (fun h2 => ?_) (fun h2 => ?_)
    · have hm := (if_pos h2).symm.trans hm
      refine lv_aload_n hx hb dX6_measureOut_11 rfl (lv_at hl 0 rfl) ?_
      refine eb_get (T := TX6) X hw 3 1 (by decide) ⟨rfl, rfl, rfl⟩ (by decide) (fun _ h => List.mem_cons_of_mem _ (inlX6 _ h)) (List.mem_cons_of_mem _ wi_3_5) (v := .ref (ad 5)) rfl dX6_measureOut_12 ?_
      refine lv_iload_n hx hb dX6_measureOut_15 rfl (lv_at hl 1 rfl) ?_
      refine eb_lald (n := 16) X hw 5 (by decide) rfl rfl (eb_rng (eb_nlt h1) h2 (by decide) (by decide)) dX6_measureOut_16 ?_
      refine lv_topl (fun x3 ex3 => ?_)
      have hm : (if ((σ.1 4 a0.toNatClampNeg) &&& 24) = 8 then (if a0 = 0 then m_X6_measureOut_84  σ a0 x3 0 else m_X6_measureOut_84  σ a0 x3 (σ.2 5 (a0 - 1).toNatClampNeg)) else if ((σ.1 4 a0.toNatClampNeg) &&& 24) = 16 then (fun (x7 : Int64) => m_X6_measureOut_132  σ a0 x3 x7) (x3 + 1) else if ((σ.1 4 a0.toNatClampNeg) &&& 24) = 24 then (fun (x9 : Int64) => (fun (x10 : Int64) => (fun (x11 : Int64) => m_X6_measureOut_132  σ a0 x10 x11) ((x10 + x9) + 1)) (x3 &&& (x9 ^^^ (-1)))) (x3 ^^^ (x3 + 1)) else m_X6_measureOut_132  σ a0 0 0) = mm := by rw [ex3]; exact hm
      refine lv_lstore_n (lv' := [(2, .long x3), (0, .ref (ad 3)), (1, .int a0)]) hx hb dX6_measureOut_17 rfl hl (by decide) rfl (fun ls hl => ?_)
      refine lv_lconst (v := 0) hx hb dX6_measureOut_18 (by decide) ?_
      refine lv_lstore (lv' := [(4, .long 0), (2, .long x3), (0, .ref (ad 3)), (1, .int a0)]) hx hb dX6_measureOut_19 hl (by decide) rfl (fun ls hl => ?_)
      refine lv_lconst (v := 0) hx hb dX6_measureOut_21 (by decide) ?_
      refine lv_lstore (lv' := [(6, .long 0), (4, .long 0), (2, .long x3), (0, .ref (ad 3)), (1, .int a0)]) hx hb dX6_measureOut_22 hl (by decide) rfl (fun ls hl => ?_)
      refine lv_aload_n hx hb dX6_measureOut_24 rfl (lv_at hl 3 rfl) ?_
      refine eb_get (T := TX6) X hw 3 0 (by decide) ⟨rfl, rfl, rfl⟩ (by decide) (fun _ h => List.mem_cons_of_mem _ (inlX6 _ h)) (List.mem_cons_of_mem _ wi_3_4) (v := .ref (ad 4)) rfl dX6_measureOut_25 ?_
      refine lv_iload_n hx hb dX6_measureOut_28 rfl (lv_at hl 4 rfl) ?_
      refine eb_iald (n := 16) X hw 4 (by decide) rfl rfl (eb_rng (eb_nlt h1) h2 (by decide) (by decide)) dX6_measureOut_29 ?_
      refine lv_bipush (v := 24) hx hb dX6_measureOut_30 (by decide) ?_
      refine lv_iand hx hb dX6_measureOut_32 ?_
      by_cases h4 : ((σ.1 4 a0.toNatClampNeg) &&& 24) = 8
      · have hm := (if_pos h4).symm.trans hm
        refine lv_lookup (off := 35) (tgt := 68) hx hb dX6_measureOut_33 (by decide) (by rw [h4]; decide) (by decide) ?_
        refine lv_iload_n hx hb dX6_measureOut_68 rfl (lv_at hl 4 rfl) ?_
        refine lv_if_ne (tgt := 76) hx hb dX6_measureOut_69 (by decide) (fun h5 => ?_) (fun h5 => ?_)
        · have hm := (if_neg h5).symm.trans hm
          refine lv_aload_n hx hb dX6_measureOut_76 rfl (lv_at hl 3 rfl) ?_
          refine eb_get (T := TX6) X hw 3 1 (by decide) ⟨rfl, rfl, rfl⟩ (by decide) (fun _ h => List.mem_cons_of_mem _ (inlX6 _ h)) (List.mem_cons_of_mem _ wi_3_5) (v := .ref (ad 5)) rfl dX6_measureOut_77 ?_
          refine lv_iload_n hx hb dX6_measureOut_80 rfl (lv_at hl 4 rfl) ?_
          refine lv_iconst (v := 1) hx hb dX6_measureOut_81 (by decide) ?_
          refine lv_isub hx hb dX6_measureOut_82 ?_
          refine eb_lald (n := 16) X hw 5 (by decide) rfl rfl (eb_in_pred (eb_rng (eb_nlt h1) h2 (by decide) (by decide)) h5) dX6_measureOut_83 ?_
          exact k_X6_measureOut_84 X   σ a0 x3 (σ.2 5 (a0 - 1).toNatClampNeg) (eb_rng (eb_nlt h1) h2 (by decide) (by decide)) hm hw (lv_sub hl [3, 4, 2] rfl)
        · have hm := (if_pos h5).symm.trans hm
          refine lv_lconst (v := 0) hx hb dX6_measureOut_72 (by decide) ?_
          refine lv_goto (tgt := 84) hx hb dX6_measureOut_73 (by decide) ?_
          exact k_X6_measureOut_84 X   σ a0 x3 0 (eb_rng (eb_nlt h1) h2 (by decide) (by decide)) hm hw (lv_sub hl [3, 4, 2] rfl)
      · have hm := (if_neg h4).symm.trans hm
        by_cases h6 : ((σ.1 4 a0.toNatClampNeg) &&& 24) = 16
        · have hm := (if_pos h6).symm.trans hm
          refine lv_lookup (off := 59) (tgt := 92) hx hb dX6_measureOut_33 (by decide) (by rw [h6]; decide) (by decide) ?_
          refine lv_lload_n hx hb dX6_measureOut_92 rfl (lv_at hl 2 rfl) ?_
          refine lv_lstore (lv' := [(4, .long x3), (6, .long 0), (2, .long x3), (0, .ref (ad 3)), (1, .int a0)]) hx hb dX6_measureOut_93 hl (by decide) rfl (fun ls hl => ?_)
          refine lv_lload_n hx hb dX6_measureOut_95 rfl (lv_at hl 2 rfl) ?_
          refine lv_lconst (v := 1) hx hb dX6_measureOut_96 (by decide) ?_
          refine lv_ladd hx hb dX6_measureOut_97 ?_
          refine lv_topl (fun x7 ex7 => ?_)
          have hm : m_X6_measureOut_132  σ a0 x3 x7 = mm := by rw [ex7]; exact hm
          refine lv_lstore (lv' := [(6, .long x7), (4, .long x3), (2, .long x3), (0, .ref (ad 3)), (1, .int a0)]) hx hb dX6_measureOut_98 hl (by decide) rfl (fun ls hl => ?_)
          refine lv_goto (tgt := 132) hx hb dX6_measureOut_100 (by decide) ?_
          exact k_X6_measureOut_132 X   σ a0 x3 x7 (eb_rng (eb_nlt h1) h2 (by decide) (by decide)) hm hw (lv_sub hl [3, 4, 1, 0] rfl)
        · have hm := (if_neg h6).symm.trans hm
          by_cases h8 : ((σ.1 4 a0.toNatClampNeg) &&& 24) = 24
          · have hm := (if_pos h8).symm.trans hm
            refine lv_lookup (off := 70) (tgt := 103) hx hb dX6_measureOut_33 (by decide) (by rw [h8]; decide) (by decide) ?_
            refine lv_lload_n hx hb dX6_measureOut_103 rfl (lv_at hl 2 rfl) ?_
            refine lv_lload_n hx hb dX6_measureOut_104 rfl (lv_at hl 2 rfl) ?_
            refine lv_lconst (v := 1) hx hb dX6_measureOut_105 (by decide) ?_
            refine lv_ladd hx hb dX6_measureOut_106 ?_
            refine lv_lxor hx hb dX6_measureOut_107 ?_
            refine lv_topl (fun x9 ex9 => ?_)
            have hm : (fun (x10 : Int64) => (fun (x11 : Int64) => m_X6_measureOut_132  σ a0 x10 x11) ((x10 + x9) + 1)) (x3 &&& (x9 ^^^ (-1))) = mm := by rw [ex9]; exact hm
            refine lv_lstore (lv' := [(8, .long x9), (6, .long 0), (4, .long 0), (2, .long x3), (0, .ref (ad 3)), (1, .int a0)]) hx hb dX6_measureOut_108 hl (by decide) rfl (fun ls hl => ?_)
            refine lv_lload_n hx hb dX6_measureOut_110 rfl (lv_at hl 3 rfl) ?_
            refine lv_lload hx hb dX6_measureOut_111 (lv_at hl 0 rfl) ?_
            refine lv_ldc2 hx hb hown (hts _ (List.mem_cons_of_mem _ wi_14_0)) dX6_measureOut_113 ?_
            refine lv_lxor hx hb dX6_measureOut_116 ?_
            refine lv_land hx hb dX6_measureOut_117 ?_
            refine lv_topl (fun x10 ex10 => ?_)
            have hm : (fun (x11 : Int64) => m_X6_measureOut_132  σ a0 x10 x11) ((x10 + x9) + 1) = mm := by rw [ex10]; exact hm
            refine lv_lstore (lv' := [(4, .long x10), (8, .long x9), (6, .long 0), (2, .long x3), (0, .ref (ad 3)), (1, .int a0)]) hx hb dX6_measureOut_118 hl (by decide) rfl (fun ls hl => ?_)
            refine lv_lload hx hb dX6_measureOut_120 (lv_at hl 0 rfl) ?_
            refine lv_lload hx hb dX6_measureOut_122 (lv_at hl 1 rfl) ?_
            refine lv_ladd hx hb dX6_measureOut_124 ?_
            refine lv_lconst (v := 1) hx hb dX6_measureOut_125 (by decide) ?_
            refine lv_ladd hx hb dX6_measureOut_126 ?_
            refine lv_topl (fun x11 ex11 => ?_)
            have hm : m_X6_measureOut_132  σ a0 x10 x11 = mm := by rw [ex11]; exact hm
            refine lv_lstore (lv' := [(6, .long x11), (4, .long x10), (8, .long x9), (2, .long x3), (0, .ref (ad 3)), (1, .int a0)]) hx hb dX6_measureOut_127 hl (by decide) rfl (fun ls hl => ?_)
            refine lv_goto (tgt := 132) hx hb dX6_measureOut_129 (by decide) ?_
            exact k_X6_measureOut_132 X   σ a0 x10 x11 (eb_rng (eb_nlt h1) h2 (by decide) (by decide)) hm hw (lv_sub hl [4, 5, 1, 0] rfl)
          · have hm := (if_neg h8).symm.trans hm
            refine lv_lookup (off := 99) (tgt := 132) hx hb dX6_measureOut_33 (by decide) (by show Op.lookupswitch.offset [(8, 35), (16, 59), (24, 70)] _ _ = _; rw [lv_osw h4 (by decide)]; rw [lv_osw h6 (by decide)]; rw [lv_osw h8 (by decide)]; rfl) (by decide) ?_
            exact k_X6_measureOut_132 X   σ a0 0 0 (eb_rng (eb_nlt h1) h2 (by decide) (by decide)) hm hw (lv_sub hl [3, 4, 1, 0] rfl)
    · have hm := (if_neg h2).symm.trans hm
      subst hm
      exact eb_vret X hw rfl rfl dX6_measureOut_10

set_option maxHeartbeats 4000000 in
set_option maxRecDepth 100000 in
theorem c_X6_put (l : Launch) (D : va_G) (cy : Nat → ClassId) (ad : Nat → Nat) (σ : eb_St) (a0 : Int32) (a1 : Int32) (a2 : Int64)  : eb_M l yX6_put (Cond.code yX6_put cX6_put 5 none :: wsL_law) 1 29 D 33 cy cL ad σ [.ref (ad 3), .int a0, .int a1, .long a2] (none) (m_X6_put σ a0 a1 a2) := by
  refine eb_start (own := RX6) (by decide) rfl rfl (Nat.le_of_ble_eq_true rfl) ?_
  intro p e s m args below meth c A ls X hw hl
  have hl : lv_has ls 5 [(0, .ref (ad 3)), (1, .int a0), (2, .int a1), (3, .long a2)] := hl
  have hx := X.1.1
  have hb := X.1.2.1
  have hown := X.1.2.2.2.1
  have hts := X.1.2.2.2.2
  generalize hm : m_X6_put σ a0 a1 a2 = mm
  have hm : (if a0 < 0 then σ else (if (16 : Int32) ≤ a0 then σ else (fun (z3 : eb_St) => (fun (z4 : eb_St) => z4) (m_X6_measureOut z3 (a0 + 1))) (m_X6_measureOut (eb_pJ (eb_pI σ 4 a0.toNatClampNeg a1) 5 a0.toNatClampNeg a2) a0))) = mm := hm
  refine lv_iload_n hx hb dX6_put_0 rfl (lv_at hl 1 rfl) ?_
  refine lv_if_lt (tgt := 36) hx hb dX6_put_1 (by decide) (fun h1 => ?_) (fun h1 => ?_)
  · have hm := (if_pos h1).symm.trans hm
    subst hm
    exact eb_vret X hw rfl rfl dX6_put_36
  · have hm := (if_neg h1).symm.trans hm
    refine lv_iload_n hx hb dX6_put_4 rfl (lv_at hl 1 rfl) ?_
    refine lv_bipush (v := 16) hx hb dX6_put_5 (by decide) ?_
    refine lv_icmp_ge (tgt := 36) hx hb dX6_put_7 (by decide) (fun h2 => ?_) (fun h2 => ?_)
    · have hm := (if_pos h2).symm.trans hm
      subst hm
      exact eb_vret X hw rfl rfl dX6_put_36
    · have hm := (if_neg h2).symm.trans hm
      refine lv_aload_n hx hb dX6_put_10 rfl (lv_at hl 0 rfl) ?_
      refine eb_get (T := TX6) X hw 3 0 (by decide) ⟨rfl, rfl, rfl⟩ (by decide) (fun _ h => List.mem_cons_of_mem _ (inlX6 _ h)) (List.mem_cons_of_mem _ wi_3_4) (v := .ref (ad 4)) rfl dX6_put_11 ?_
      refine lv_iload_n hx hb dX6_put_14 rfl (lv_at hl 1 rfl) ?_
      refine lv_iload_n hx hb dX6_put_15 rfl (lv_at hl 2 rfl) ?_
      refine eb_iast (n := 16) X hw 4 (by decide) rfl rfl (eb_rng (eb_nlt h1) (eb_nle h2) (by decide) (by decide)) dX6_put_16 (fun H locs hw => ?_)
      refine lv_aload_n hx hb dX6_put_17 rfl (lv_at hl 0 rfl) ?_
      refine eb_get (T := TX6) X hw 3 1 (by decide) ⟨rfl, rfl, rfl⟩ (by decide) (fun _ h => List.mem_cons_of_mem _ (inlX6 _ h)) (List.mem_cons_of_mem _ wi_3_5) (v := .ref (ad 5)) rfl dX6_put_18 ?_
      refine lv_iload_n hx hb dX6_put_21 rfl (lv_at hl 1 rfl) ?_
      refine lv_lload_n hx hb dX6_put_22 rfl (lv_at hl 3 rfl) ?_
      refine eb_last (n := 16) X hw 5 (by decide) rfl rfl (eb_rng (eb_nlt h1) (eb_nle h2) (by decide) (by decide)) dX6_put_23 (fun H locs hw => ?_)
      refine lv_aload_n hx hb dX6_put_24 rfl (lv_at hl 0 rfl) ?_
      refine lv_iload_n hx hb dX6_put_25 rfl (lv_at hl 1 rfl) ?_
      obtain ⟨z3, qz3⟩ : ∃ t : eb_St, t = m_X6_measureOut (eb_pJ (eb_pI σ 4 a0.toNatClampNeg a1) 5 a0.toNatClampNeg a2) a0 := ⟨_, rfl⟩
      have hm : (fun (z4 : eb_St) => z4) (m_X6_measureOut z3 (a0 + 1)) = mm := by rw [qz3]; exact hm
      have hc : eb_M l yX6_measureOut (Cond.code yX6_measureOut cX6_measureOut 10 none :: wsL_law) 0 0 D 33 cy cL ad (eb_pJ (eb_pI σ 4 a0.toNatClampNeg a1) 5 a0.toNatClampNeg a2) [.ref (ad 3), .int a0] (none) z3 := by rw [qz3]; exact c_X6_measureOut l D cy ad (eb_pJ (eb_pI σ 4 a0.toNatClampNeg a1) 5 a0.toNatClampNeg a2) a0
      refine eb_callV (n := 1) (as := [.int a0]) (rest := []) X hw hl.1 3 hc (by decide) ⟨rfl, rfl, rfl⟩ (eb_goodV wi_13_20 wi_13_21 wi_13_22 wi_1_23 wi_13_23) rfl (by decide +kernel) ⟨by decide, by decide⟩ rfl rfl (Nat.le_of_ble_eq_true rfl) dX6_put_26 ⟨by decide, by decide⟩ (st' := []) rfl (fun H locs hw => ?_)
      refine lv_aload_n hx hb dX6_put_29 rfl (lv_at hl 0 rfl) ?_
      refine lv_iload_n hx hb dX6_put_30 rfl (lv_at hl 1 rfl) ?_
      refine lv_iconst (v := 1) hx hb dX6_put_31 (by decide) ?_
      refine lv_iadd hx hb dX6_put_32 ?_
      obtain ⟨z4, qz4⟩ : ∃ t : eb_St, t = m_X6_measureOut z3 (a0 + 1) := ⟨_, rfl⟩
      have hm : z4 = mm := by rw [qz4]; exact hm
      have hc : eb_M l yX6_measureOut (Cond.code yX6_measureOut cX6_measureOut 10 none :: wsL_law) 0 0 D 33 cy cL ad z3 [.ref (ad 3), .int (a0 + 1)] (none) z4 := by rw [qz4]; exact c_X6_measureOut l D cy ad z3 (a0 + 1)
      refine eb_callV (n := 1) (as := [.int (a0 + 1)]) (rest := []) X hw hl.1 3 hc (by decide) ⟨rfl, rfl, rfl⟩ (eb_goodV wi_13_20 wi_13_21 wi_13_22 wi_1_23 wi_13_23) rfl (by decide +kernel) ⟨by decide, by decide⟩ rfl rfl (Nat.le_of_ble_eq_true rfl) dX6_put_33 ⟨by decide, by decide⟩ (st' := []) rfl (fun H locs hw => ?_)
      subst hm
      exact eb_vret X hw rfl rfl dX6_put_36

set_option maxHeartbeats 4000000 in
set_option maxRecDepth 100000 in
theorem c_X6_legal (l : Launch) (D : va_G) (cy : Nat → ClassId) (ad : Nat → Nat) (σ : eb_St) (a0 : Int32)  : eb_M l yX6_legal (Cond.code yX6_legal cX6_legal 2 (some .int) :: wsL_law) 0 0 D 33 cy cL ad σ [.int a0] (some (.int (m_X6_legal a0))) σ := by
  refine eb_start (own := RX6) (by decide) rfl rfl (Nat.le_of_ble_eq_true rfl) ?_
  intro p e s m args below meth c A ls X hw hl
  have hl : lv_has ls 2 [(0, .int a0)] := hl
  have hx := X.1.1
  have hb := X.1.2.1
  have hown := X.1.2.2.2.1
  have hts := X.1.2.2.2.2
  generalize hm : m_X6_legal a0 = mm
  have hm : (fun (x1 : Int32) => (if (x1 &&& 1) = 0 then x1 &&& (-3) else x1)) (a0 &&& 159) = mm := hm
  refine lv_iload_n hx hb dX6_legal_0 rfl (lv_at hl 0 rfl) ?_
  refine lv_sipush (v := 159) hx hb dX6_legal_1 (by decide) ?_
  refine lv_iand hx hb dX6_legal_4 ?_
  refine lv_topi (fun x1 ex1 => ?_)
  have hm : (if (x1 &&& 1) = 0 then x1 &&& (-3) else x1) = mm := by rw [ex1]; exact hm
  refine lv_istore_n (lv' := [(1, .int x1), (0, .int a0)]) hx hb dX6_legal_5 rfl hl (by decide) rfl (fun ls hl => ?_)
  refine lv_iload_n hx hb dX6_legal_6 rfl (lv_at hl 0 rfl) ?_
  refine lv_iconst (v := 1) hx hb dX6_legal_7 (by decide) ?_
  refine lv_iand hx hb dX6_legal_8 ?_
  refine lv_if_ne (tgt := 19) hx hb dX6_legal_9 (by decide) (fun h2 => ?_) (fun h2 => ?_)
  · have hm := (if_neg h2).symm.trans hm
    refine lv_iload_n hx hb dX6_legal_19 rfl (lv_at hl 0 rfl) ?_
    subst hm
    exact eb_iret X hw rfl rfl rfl dX6_legal_20
  · have hm := (if_pos h2).symm.trans hm
    refine lv_iload_n hx hb dX6_legal_12 rfl (lv_at hl 0 rfl) ?_
    refine lv_bipush (v := (-3)) hx hb dX6_legal_13 (by decide) ?_
    refine lv_iand hx hb dX6_legal_15 ?_
    refine lv_goto (tgt := 20) hx hb dX6_legal_16 (by decide) ?_
    subst hm
    exact eb_iret X hw rfl rfl rfl dX6_legal_20

set_option maxHeartbeats 4000000 in
set_option maxRecDepth 100000 in
theorem c_X6_isAddressLocked (l : Launch) (D : va_G) (cy : Nat → ClassId) (ad : Nat → Nat) (σ : eb_St) (a0 : Int32) (h0_ : vp_in a0 16) : eb_M l yX6_isAddressLocked (Cond.code yX6_isAddressLocked cX6_isAddressLocked 2 (some .boolean) :: wsL_law) 0 0 D 33 cy cL ad σ [.ref (ad 3), .int a0] (some (.int (eb_b (m_X6_isAddressLocked σ a0)))) σ := by
  refine eb_start (own := RX6) (by decide) rfl rfl (Nat.le_of_ble_eq_true rfl) ?_
  intro p e s m args below meth c A ls X hw hl
  have hl : lv_has ls 2 [(0, .ref (ad 3)), (1, .int a0)] := hl
  have hx := X.1.1
  have hb := X.1.2.1
  have hown := X.1.2.2.2.1
  have hts := X.1.2.2.2.2
  generalize hm : m_X6_isAddressLocked σ a0 = mm
  have hm : (if ((σ.1 4 a0.toNatClampNeg) &&& 128) = 0 then (if (16 : Int32) ≤ (a0 + 1) then false else (if ((σ.1 4 (a0 + 1).toNatClampNeg) &&& 152) = 136 then true else false)) else true) = mm := hm
  refine lv_aload_n hx hb dX6_isAddressLocked_0 rfl (lv_at hl 0 rfl) ?_
  refine eb_get (T := TX6) X hw 3 0 (by decide) ⟨rfl, rfl, rfl⟩ (by decide) (fun _ h => List.mem_cons_of_mem _ (inlX6 _ h)) (List.mem_cons_of_mem _ wi_3_4) (v := .ref (ad 4)) rfl dX6_isAddressLocked_1 ?_
  refine lv_iload_n hx hb dX6_isAddressLocked_4 rfl (lv_at hl 1 rfl) ?_
  refine eb_iald (n := 16) X hw 4 (by decide) rfl rfl h0_ dX6_isAddressLocked_5 ?_
  refine lv_sipush (v := 128) hx hb dX6_isAddressLocked_6 (by decide) ?_
  refine lv_iand hx hb dX6_isAddressLocked_9 ?_
  refine lv_if_eq (tgt := 15) hx hb dX6_isAddressLocked_10 (by decide) (fun h1 => ?_) (fun h1 => ?_)
  · have hm := (if_pos h1).symm.trans hm
    refine lv_iload_n hx hb dX6_isAddressLocked_15 rfl (lv_at hl 1 rfl) ?_
    refine lv_iconst (v := 1) hx hb dX6_isAddressLocked_16 (by decide) ?_
    refine lv_iadd hx hb dX6_isAddressLocked_17 ?_
    refine lv_bipush (v := 16) hx hb dX6_isAddressLocked_18 (by decide) ?_
    refine lv_icmp_ge (tgt := 45) hx hb dX6_isAddressLocked_20 (by decide) (fun h2 => ?_) (fun h2 => ?_)
    · have hm := (if_pos h2).symm.trans hm
      refine lv_iconst (v := 0) hx hb dX6_isAddressLocked_45 (by decide) ?_
      subst hm
      exact eb_zret X hw rfl rfl rfl rfl dX6_isAddressLocked_46
    · have hm := (if_neg h2).symm.trans hm
      refine lv_aload_n hx hb dX6_isAddressLocked_23 rfl (lv_at hl 0 rfl) ?_
      refine eb_get (T := TX6) X hw 3 0 (by decide) ⟨rfl, rfl, rfl⟩ (by decide) (fun _ h => List.mem_cons_of_mem _ (inlX6 _ h)) (List.mem_cons_of_mem _ wi_3_4) (v := .ref (ad 4)) rfl dX6_isAddressLocked_24 ?_
      refine lv_iload_n hx hb dX6_isAddressLocked_27 rfl (lv_at hl 1 rfl) ?_
      refine lv_iconst (v := 1) hx hb dX6_isAddressLocked_28 (by decide) ?_
      refine lv_iadd hx hb dX6_isAddressLocked_29 ?_
      refine eb_iald (n := 16) X hw 4 (by decide) rfl rfl (eb_in_succ (by decide) h0_ (eb_nle h2)) dX6_isAddressLocked_30 ?_
      refine lv_sipush (v := 152) hx hb dX6_isAddressLocked_31 (by decide) ?_
      refine lv_iand hx hb dX6_isAddressLocked_34 ?_
      refine lv_sipush (v := 136) hx hb dX6_isAddressLocked_35 (by decide) ?_
      refine lv_icmp_ne (tgt := 45) hx hb dX6_isAddressLocked_38 (by decide) (fun h3 => ?_) (fun h3 => ?_)
      · have hm := (if_neg h3).symm.trans hm
        refine lv_iconst (v := 0) hx hb dX6_isAddressLocked_45 (by decide) ?_
        subst hm
        exact eb_zret X hw rfl rfl rfl rfl dX6_isAddressLocked_46
      · have hm := (if_pos h3).symm.trans hm
        refine lv_iconst (v := 1) hx hb dX6_isAddressLocked_41 (by decide) ?_
        refine lv_goto (tgt := 46) hx hb dX6_isAddressLocked_42 (by decide) ?_
        subst hm
        exact eb_zret X hw rfl rfl rfl rfl dX6_isAddressLocked_46
  · have hm := (if_neg h1).symm.trans hm
    refine lv_iconst (v := 1) hx hb dX6_isAddressLocked_13 (by decide) ?_
    subst hm
    exact eb_zret X hw rfl rfl rfl rfl dX6_isAddressLocked_14

set_option maxHeartbeats 4000000 in
set_option maxRecDepth 100000 in
theorem c_X6_writeAddress (l : Launch) (D : va_G) (cy : Nat → ClassId) (ad : Nat → Nat) (σ : eb_St) (a0 : Int32) (a1 : Int64)  : eb_M l yX6_writeAddress (Cond.code yX6_writeAddress cX6_writeAddress 4 none :: wsL_law) 1 29 D 33 cy cL ad σ [.ref (ad 3), .int a0, .long a1] (none) (m_X6_writeAddress σ a0 a1) := by
  refine eb_start (own := RX6) (by decide) rfl rfl (Nat.le_of_ble_eq_true rfl) ?_
  intro p e s m args below meth c A ls X hw hl
  have hl : lv_has ls 4 [(0, .ref (ad 3)), (1, .int a0), (2, .long a1)] := hl
  have hx := X.1.1
  have hb := X.1.2.1
  have hown := X.1.2.2.2.1
  have hts := X.1.2.2.2.2
  generalize hm : m_X6_writeAddress σ a0 a1 = mm
  have hm : (if a0 < 8 then σ else (if (16 : Int32) ≤ a0 then σ else (fun (z3 : Bool) => (if (eb_b z3) = 0 then (fun (z5 : eb_St) => (fun (z6 : eb_St) => z6) (m_X6_measureOut z5 (a0 + 1))) (m_X6_measureOut (eb_pJ σ 5 a0.toNatClampNeg (a1 &&& 18014398509481983)) a0) else σ)) (m_X6_isAddressLocked σ a0))) = mm := hm
  refine lv_iload_n hx hb dX6_writeAddress_0 rfl (lv_at hl 1 rfl) ?_
  refine lv_bipush (v := 8) hx hb dX6_writeAddress_1 (by decide) ?_
  refine lv_icmp_lt (tgt := 43) hx hb dX6_writeAddress_3 (by decide) (fun h1 => ?_) (fun h1 => ?_)
  · have hm := (if_pos h1).symm.trans hm
    subst hm
    exact eb_vret X hw rfl rfl dX6_writeAddress_43
  · have hm := (if_neg h1).symm.trans hm
    refine lv_iload_n hx hb dX6_writeAddress_6 rfl (lv_at hl 1 rfl) ?_
    refine lv_bipush (v := 16) hx hb dX6_writeAddress_7 (by decide) ?_
    refine lv_icmp_ge (tgt := 43) hx hb dX6_writeAddress_9 (by decide) (fun h2 => ?_) (fun h2 => ?_)
    · have hm := (if_pos h2).symm.trans hm
      subst hm
      exact eb_vret X hw rfl rfl dX6_writeAddress_43
    · have hm := (if_neg h2).symm.trans hm
      refine lv_aload_n hx hb dX6_writeAddress_12 rfl (lv_at hl 0 rfl) ?_
      refine lv_iload_n hx hb dX6_writeAddress_13 rfl (lv_at hl 1 rfl) ?_
      obtain ⟨z3, qz3⟩ : ∃ t : Bool, t = m_X6_isAddressLocked σ a0 := ⟨_, rfl⟩
      have hm : (if (eb_b z3) = 0 then (fun (z5 : eb_St) => (fun (z6 : eb_St) => z6) (m_X6_measureOut z5 (a0 + 1))) (m_X6_measureOut (eb_pJ σ 5 a0.toNatClampNeg (a1 &&& 18014398509481983)) a0) else σ) = mm := by rw [qz3]; exact hm
      have hc : eb_M l yX6_isAddressLocked (Cond.code yX6_isAddressLocked cX6_isAddressLocked 2 (some .boolean) :: wsL_law) 0 0 D 33 cy cL ad σ [.ref (ad 3), .int a0] (some (.int (eb_b z3))) σ := by rw [qz3]; exact c_X6_isAddressLocked l D cy ad σ a0 (eb_rng (eb_nlt h1) (eb_nle h2) (by decide) (by decide))
      refine eb_callV (n := 1) (as := [.int a0]) (rest := []) X hw hl.1 3 hc (by decide) ⟨rfl, rfl, rfl⟩ (eb_goodV wi_22_10 wi_22_11 wi_22_12 wi_1_23 wi_22_13) rfl (by decide +kernel) ⟨by decide, by decide⟩ rfl rfl (Nat.le_of_ble_eq_true rfl) dX6_writeAddress_14 ⟨by decide, by decide⟩ (st' := [.int (eb_b z3)]) rfl (fun H locs hw => ?_)
      refine lv_if_ne (tgt := 43) hx hb dX6_writeAddress_17 (by decide) (fun h4 => ?_) (fun h4 => ?_)
      · have hm := (if_neg h4).symm.trans hm
        subst hm
        exact eb_vret X hw rfl rfl dX6_writeAddress_43
      · have hm := (if_pos h4).symm.trans hm
        refine lv_aload_n hx hb dX6_writeAddress_20 rfl (lv_at hl 0 rfl) ?_
        refine eb_get (T := TX6) X hw 3 1 (by decide) ⟨rfl, rfl, rfl⟩ (by decide) (fun _ h => List.mem_cons_of_mem _ (inlX6 _ h)) (List.mem_cons_of_mem _ wi_3_5) (v := .ref (ad 5)) rfl dX6_writeAddress_21 ?_
        refine lv_iload_n hx hb dX6_writeAddress_24 rfl (lv_at hl 1 rfl) ?_
        refine lv_lload_n hx hb dX6_writeAddress_25 rfl (lv_at hl 2 rfl) ?_
        refine lv_ldc2 hx hb hown (hts _ (List.mem_cons_of_mem _ wi_22_9)) dX6_writeAddress_26 ?_
        refine lv_land hx hb dX6_writeAddress_29 ?_
        refine eb_last (n := 16) X hw 5 (by decide) rfl rfl (eb_rng (eb_nlt h1) (eb_nle h2) (by decide) (by decide)) dX6_writeAddress_30 (fun H locs hw => ?_)
        refine lv_aload_n hx hb dX6_writeAddress_31 rfl (lv_at hl 0 rfl) ?_
        refine lv_iload_n hx hb dX6_writeAddress_32 rfl (lv_at hl 1 rfl) ?_
        obtain ⟨z5, qz5⟩ : ∃ t : eb_St, t = m_X6_measureOut (eb_pJ σ 5 a0.toNatClampNeg (a1 &&& 18014398509481983)) a0 := ⟨_, rfl⟩
        have hm : (fun (z6 : eb_St) => z6) (m_X6_measureOut z5 (a0 + 1)) = mm := by rw [qz5]; exact hm
        have hc : eb_M l yX6_measureOut (Cond.code yX6_measureOut cX6_measureOut 10 none :: wsL_law) 0 0 D 33 cy cL ad (eb_pJ σ 5 a0.toNatClampNeg (a1 &&& 18014398509481983)) [.ref (ad 3), .int a0] (none) z5 := by rw [qz5]; exact c_X6_measureOut l D cy ad (eb_pJ σ 5 a0.toNatClampNeg (a1 &&& 18014398509481983)) a0
        refine eb_callV (n := 1) (as := [.int a0]) (rest := []) X hw hl.1 3 hc (by decide) ⟨rfl, rfl, rfl⟩ (eb_goodV wi_13_20 wi_13_21 wi_13_22 wi_1_23 wi_13_23) rfl (by decide +kernel) ⟨by decide, by decide⟩ rfl rfl (Nat.le_of_ble_eq_true rfl) dX6_writeAddress_33 ⟨by decide, by decide⟩ (st' := []) rfl (fun H locs hw => ?_)
        refine lv_aload_n hx hb dX6_writeAddress_36 rfl (lv_at hl 0 rfl) ?_
        refine lv_iload_n hx hb dX6_writeAddress_37 rfl (lv_at hl 1 rfl) ?_
        refine lv_iconst (v := 1) hx hb dX6_writeAddress_38 (by decide) ?_
        refine lv_iadd hx hb dX6_writeAddress_39 ?_
        obtain ⟨z6, qz6⟩ : ∃ t : eb_St, t = m_X6_measureOut z5 (a0 + 1) := ⟨_, rfl⟩
        have hm : z6 = mm := by rw [qz6]; exact hm
        have hc : eb_M l yX6_measureOut (Cond.code yX6_measureOut cX6_measureOut 10 none :: wsL_law) 0 0 D 33 cy cL ad z5 [.ref (ad 3), .int (a0 + 1)] (none) z6 := by rw [qz6]; exact c_X6_measureOut l D cy ad z5 (a0 + 1)
        refine eb_callV (n := 1) (as := [.int (a0 + 1)]) (rest := []) X hw hl.1 3 hc (by decide) ⟨rfl, rfl, rfl⟩ (eb_goodV wi_13_20 wi_13_21 wi_13_22 wi_1_23 wi_13_23) rfl (by decide +kernel) ⟨by decide, by decide⟩ rfl rfl (Nat.le_of_ble_eq_true rfl) dX6_writeAddress_40 ⟨by decide, by decide⟩ (st' := []) rfl (fun H locs hw => ?_)
        subst hm
        exact eb_vret X hw rfl rfl dX6_writeAddress_43

set_option maxHeartbeats 4000000 in
set_option maxRecDepth 100000 in
theorem k_X6_writeConfigs_3 {p : Program} {l : Launch} {e : Env} {s : State} {m : MethodId} {args : Array Value} {below : List Frame} {meth : Method} {c : Code} {A : Nat → Prop} {D : va_G} {cy : Nat → ClassId} {ad : Nat → Nat} (X : eb_X p s m args meth c cX6_writeConfigs 4 RX6 (Cond.code yX6_writeConfigs cX6_writeConfigs 4 none :: wsL_law) none D cy A)   : ∀ (n : Nat) (σ : eb_St) (v1 : Int64) (v3 : Int32)  (i0_ : 0 ≤ v3.toInt) (hn : ((16 : Int32).toInt - v3.toInt).toNat < n) {H : Heap} {locs : List Loc} {ls : Array Slot} {mm : eb_St} (_ : (m_X6_writeConfigs_3  n σ v1 v3) = mm) (hw : eb_H D 33 cy cL ad A s.heap σ H locs) (hl : lv_has ls 4 [(0, .ref (ad 3)), (1, .long v1), (3, .int v3)]), W p l e ({ frames := 1, cells := 0, slots := 0, locals := 29 } : Room) s m args below meth c H locs 0 0 (MQ below (eb_Q D 33 cy cL ad A (none) mm) args s 0 0 A) (F0 m 3 ls []) := by
  have hx := X.1.1
  have hb := X.1.2.1
  have hown := X.1.2.2.2.1
  have hts := X.1.2.2.2.2
  intro n
  induction n with
  | zero => intro σ v1 v3 i0_ hn; exact absurd hn (Nat.not_lt_zero _)
  | succ n ih =>
    intro σ v1 v3 i0_ hn H locs ls mm hm hw hl
    have hm : (if (16 : Int32) ≤ v3 then σ else (if ((σ.1 4 v3.toNatClampNeg) &&& 128) = 0 then (fun (z4 : Int32) => (fun (z5 : eb_St) => (fun (x6 : Int32) => m_X6_writeConfigs_3  n z5 v1 x6) (v3 + 1)) (m_X6_measureOut (eb_pI σ 4 v3.toNatClampNeg z4) v3)) (m_X6_legal ((eb_lushr v1 ((v3 - 8) * 8)).toInt32)) else (fun (x3 : Int32) => m_X6_writeConfigs_3  n σ v1 x3) (v3 + 1))) = mm := hm
    refine lv_iload_n hx hb dX6_writeConfigs_3 rfl (lv_at hl 2 rfl) ?_
    refine lv_bipush (v := 16) hx hb dX6_writeConfigs_4 (by decide) ?_
    refine lv_icmp_ge (tgt := 52) hx hb dX6_writeConfigs_6 (by decide) (fun h1 => ?_) (fun h1 => ?_)
    · have hm := (if_pos h1).symm.trans hm
      subst hm
      exact eb_vret X hw rfl rfl dX6_writeConfigs_52
    · have hm := (if_neg h1).symm.trans hm
      refine lv_aload_n hx hb dX6_writeConfigs_9 rfl (lv_at hl 0 rfl) ?_
      refine eb_get (T := TX6) X hw 3 0 (by decide) ⟨rfl, rfl, rfl⟩ (by decide) (fun _ h => List.mem_cons_of_mem _ (inlX6 _ h)) (List.mem_cons_of_mem _ wi_3_4) (v := .ref (ad 4)) rfl dX6_writeConfigs_10 ?_
      refine lv_iload_n hx hb dX6_writeConfigs_13 rfl (lv_at hl 2 rfl) ?_
      refine eb_iald (n := 16) X hw 4 (by decide) rfl rfl (eb_inU (by decide) i0_ (eb_nle h1)) dX6_writeConfigs_14 ?_
      refine lv_sipush (v := 128) hx hb dX6_writeConfigs_15 (by decide) ?_
      refine lv_iand hx hb dX6_writeConfigs_18 ?_
      refine lv_if_ne (tgt := 46) hx hb dX6_writeConfigs_19 (by decide) (fun h2 => ?_) (fun h2 => ?_)
      · have hm := (if_neg h2).symm.trans hm
        obtain ⟨x3, ex3⟩ : ∃ z : Int32, z = v3 + 1 := ⟨_, rfl⟩
        have hm : m_X6_writeConfigs_3  n σ v1 x3 = mm := by rw [ex3]; exact hm
        refine lv_iinc (v := x3) (lv' := [(3, .int x3), (0, .ref (ad 3)), (1, .long v1)]) hx hb dX6_writeConfigs_46 hl (k := 2) rfl (by rw [ex3]; exact congrArg (v3 + ·) (by decide)) (by decide) rfl (fun ls hl => ?_)
        refine lv_goto (tgt := 3) hx hb dX6_writeConfigs_49 (by decide) ?_
        exact ih σ v1 x3 (eb_up i0_ (eb_nle h1) ex3 hn).1 (eb_up i0_ (eb_nle h1) ex3 hn).2 hm hw (lv_sub hl [1, 2, 0] rfl)
      · have hm := (if_pos h2).symm.trans hm
        refine lv_aload_n hx hb dX6_writeConfigs_22 rfl (lv_at hl 0 rfl) ?_
        refine eb_get (T := TX6) X hw 3 0 (by decide) ⟨rfl, rfl, rfl⟩ (by decide) (fun _ h => List.mem_cons_of_mem _ (inlX6 _ h)) (List.mem_cons_of_mem _ wi_3_4) (v := .ref (ad 4)) rfl dX6_writeConfigs_23 ?_
        refine lv_iload_n hx hb dX6_writeConfigs_26 rfl (lv_at hl 2 rfl) ?_
        refine lv_lload_n hx hb dX6_writeConfigs_27 rfl (lv_at hl 1 rfl) ?_
        refine lv_iload_n hx hb dX6_writeConfigs_28 rfl (lv_at hl 2 rfl) ?_
        refine lv_bipush (v := 8) hx hb dX6_writeConfigs_29 (by decide) ?_
        refine lv_isub hx hb dX6_writeConfigs_31 ?_
        refine lv_bipush (v := 8) hx hb dX6_writeConfigs_32 (by decide) ?_
        refine lv_imul hx hb dX6_writeConfigs_34 ?_
        refine lv_lushr (v := eb_lushr v1 ((v3 - 8) * 8)) hx hb dX6_writeConfigs_35 rfl ?_
        refine lv_l2i (v := (eb_lushr v1 ((v3 - 8) * 8)).toInt32) hx hb dX6_writeConfigs_36 rfl ?_
        obtain ⟨z4, qz4⟩ : ∃ t : Int32, t = m_X6_legal ((eb_lushr v1 ((v3 - 8) * 8)).toInt32) := ⟨_, rfl⟩
        have hm : (fun (z5 : eb_St) => (fun (x6 : Int32) => m_X6_writeConfigs_3  n z5 v1 x6) (v3 + 1)) (m_X6_measureOut (eb_pI σ 4 v3.toNatClampNeg z4) v3) = mm := by rw [qz4]; exact hm
        have hc : eb_M l yX6_legal (Cond.code yX6_legal cX6_legal 2 (some .int) :: wsL_law) 0 0 D 33 cy cL ad σ [.int ((eb_lushr v1 ((v3 - 8) * 8)).toInt32)] (some (.int z4)) σ := by rw [qz4]; exact c_X6_legal l D cy ad σ ((eb_lushr v1 ((v3 - 8) * 8)).toInt32)
        refine eb_callS (n := 1) X hw hl.1 (rest := [.int v3, .ref (ad 4)]) hc (eb_goodS wi_22_2 wi_22_3 wi_1_23 wi_22_4) rfl (by decide +kernel) ⟨by decide, by decide⟩ rfl rfl (Nat.le_of_ble_eq_true rfl) dX6_writeConfigs_37 ⟨by decide, by decide⟩ (st' := [.int z4, .int v3, .ref (ad 4)]) rfl (fun H locs hw => ?_)
        refine eb_iast (n := 16) X hw 4 (by decide) rfl rfl (eb_inU (by decide) i0_ (eb_nle h1)) dX6_writeConfigs_40 (fun H locs hw => ?_)
        refine lv_aload_n hx hb dX6_writeConfigs_41 rfl (lv_at hl 0 rfl) ?_
        refine lv_iload_n hx hb dX6_writeConfigs_42 rfl (lv_at hl 2 rfl) ?_
        obtain ⟨z5, qz5⟩ : ∃ t : eb_St, t = m_X6_measureOut (eb_pI σ 4 v3.toNatClampNeg z4) v3 := ⟨_, rfl⟩
        have hm : (fun (x6 : Int32) => m_X6_writeConfigs_3  n z5 v1 x6) (v3 + 1) = mm := by rw [qz5]; exact hm
        have hc : eb_M l yX6_measureOut (Cond.code yX6_measureOut cX6_measureOut 10 none :: wsL_law) 0 0 D 33 cy cL ad (eb_pI σ 4 v3.toNatClampNeg z4) [.ref (ad 3), .int v3] (none) z5 := by rw [qz5]; exact c_X6_measureOut l D cy ad (eb_pI σ 4 v3.toNatClampNeg z4) v3
        refine eb_callV (n := 1) (as := [.int v3]) (rest := []) X hw hl.1 3 hc (by decide) ⟨rfl, rfl, rfl⟩ (eb_goodV wi_13_20 wi_13_21 wi_13_22 wi_1_23 wi_13_23) rfl (by decide +kernel) ⟨by decide, by decide⟩ rfl rfl (Nat.le_of_ble_eq_true rfl) dX6_writeConfigs_43 ⟨by decide, by decide⟩ (st' := []) rfl (fun H locs hw => ?_)
        obtain ⟨x6, ex6⟩ : ∃ z : Int32, z = v3 + 1 := ⟨_, rfl⟩
        have hm : m_X6_writeConfigs_3  n z5 v1 x6 = mm := by rw [ex6]; exact hm
        refine lv_iinc (v := x6) (lv' := [(3, .int x6), (0, .ref (ad 3)), (1, .long v1)]) hx hb dX6_writeConfigs_46 hl (k := 2) rfl (by rw [ex6]; exact congrArg (v3 + ·) (by decide)) (by decide) rfl (fun ls hl => ?_)
        refine lv_goto (tgt := 3) hx hb dX6_writeConfigs_49 (by decide) ?_
        exact ih z5 v1 x6 (eb_up i0_ (eb_nle h1) ex6 hn).1 (eb_up i0_ (eb_nle h1) ex6 hn).2 hm hw (lv_sub hl [1, 2, 0] rfl)
set_option maxHeartbeats 4000000 in
set_option maxRecDepth 100000 in
theorem c_X6_writeConfigs (l : Launch) (D : va_G) (cy : Nat → ClassId) (ad : Nat → Nat) (σ : eb_St) (a0 : Int64)  : eb_M l yX6_writeConfigs (Cond.code yX6_writeConfigs cX6_writeConfigs 4 none :: wsL_law) 1 29 D 33 cy cL ad σ [.ref (ad 3), .long a0] (none) (m_X6_writeConfigs σ a0) := by
  refine eb_start (own := RX6) (by decide) rfl rfl (Nat.le_of_ble_eq_true rfl) ?_
  intro p e s m args below meth c A ls X hw hl
  have hl : lv_has ls 4 [(0, .ref (ad 3)), (1, .long a0)] := hl
  have hx := X.1.1
  have hb := X.1.2.1
  have hown := X.1.2.2.2.1
  have hts := X.1.2.2.2.2
  generalize hm : m_X6_writeConfigs σ a0 = mm
  have hm : m_X6_writeConfigs_3  17 σ a0 8 = mm := hm
  refine lv_bipush (v := 8) hx hb dX6_writeConfigs_0 (by decide) ?_
  refine lv_istore_n (lv' := [(3, .int 8), (0, .ref (ad 3)), (1, .long a0)]) hx hb dX6_writeConfigs_2 rfl hl (by decide) rfl (fun ls hl => ?_)
  exact k_X6_writeConfigs_3 X   17 σ a0 8 (by decide) (by decide) hm hw (lv_sub hl [1, 2, 0] rfl)

set_option maxHeartbeats 4000000 in
set_option maxRecDepth 100000 in
theorem k_X6_readConfigs_13 {p : Program} {l : Launch} {e : Env} {s : State} {m : MethodId} {args : Array Value} {below : List Frame} {meth : Method} {c : Code} {A : Nat → Prop} {D : va_G} {cy : Nat → ClassId} {ad : Nat → Nat} (X : eb_X p s m args meth c cX6_readConfigs 5 RX6 (Cond.code yX6_readConfigs cX6_readConfigs 5 (some .long) :: wsL_law) (some .long) D cy A)   : ∀ (n : Nat) (σ : eb_St) (v1 : Int32) (v2 : Int64) (v4 : Int32)  (i0_ : v4.toInt ≤ 15) (hn : (v4.toInt + 1).toNat < n) {H : Heap} {locs : List Loc} {ls : Array Slot} {mm : Int64} (_ : (m_X6_readConfigs_13  n σ v1 v2 v4) = mm) (hw : eb_H D 33 cy cL ad A s.heap σ H locs) (hl : lv_has ls 5 [(0, .ref (ad 3)), (1, .int v1), (2, .long v2), (4, .int v4)]), W p l e ({ frames := 1, cells := 0, slots := 0, locals := 21 } : Room) s m args below meth c H locs 0 0 (MQ below (eb_Q D 33 cy cL ad A (some (.long mm)) σ) args s 0 0 A) (F0 m 13 ls []) := by
  have hx := X.1.1
  have hb := X.1.2.1
  have hown := X.1.2.2.2.1
  have hts := X.1.2.2.2.2
  intro n
  induction n with
  | zero => intro σ v1 v2 v4 i0_ hn; exact absurd hn (Nat.not_lt_zero _)
  | succ n ih =>
    intro σ v1 v2 v4 i0_ hn H locs ls mm hm hw hl
    have hm : (if v4 < v1 then v2 else (if v4 < 0 then v2 else (fun (x4 : Int64) => (fun (x5 : Int32) => m_X6_readConfigs_13  n σ v1 x4 x5) (v4 + (-1))) ((eb_lshl v2 8) ||| ((σ.1 4 v4.toNatClampNeg).toInt64)))) = mm := hm
    refine lv_iload hx hb dX6_readConfigs_13 (lv_at hl 3 rfl) ?_
    refine lv_iload_n hx hb dX6_readConfigs_15 rfl (lv_at hl 1 rfl) ?_
    refine lv_icmp_lt (tgt := 44) hx hb dX6_readConfigs_16 (by decide) (fun h2 => ?_) (fun h2 => ?_)
    · have hm := (if_pos h2).symm.trans hm
      refine lv_lload_n hx hb dX6_readConfigs_44 rfl (lv_at hl 2 rfl) ?_
      subst hm
      exact eb_lret X hw rfl rfl rfl dX6_readConfigs_45
    · have hm := (if_neg h2).symm.trans hm
      refine lv_iload hx hb dX6_readConfigs_19 (lv_at hl 3 rfl) ?_
      refine lv_if_lt (tgt := 44) hx hb dX6_readConfigs_21 (by decide) (fun h3 => ?_) (fun h3 => ?_)
      · have hm := (if_pos h3).symm.trans hm
        refine lv_lload_n hx hb dX6_readConfigs_44 rfl (lv_at hl 2 rfl) ?_
        subst hm
        exact eb_lret X hw rfl rfl rfl dX6_readConfigs_45
      · have hm := (if_neg h3).symm.trans hm
        refine lv_lload_n hx hb dX6_readConfigs_24 rfl (lv_at hl 2 rfl) ?_
        refine lv_bipush (v := 8) hx hb dX6_readConfigs_25 (by decide) ?_
        refine lv_lshl (v := eb_lshl v2 8) hx hb dX6_readConfigs_27 rfl ?_
        refine lv_aload_n hx hb dX6_readConfigs_28 rfl (lv_at hl 0 rfl) ?_
        refine eb_get (T := TX6) X hw 3 0 (by decide) ⟨rfl, rfl, rfl⟩ (by decide) (fun _ h => List.mem_cons_of_mem _ (inlX6 _ h)) (List.mem_cons_of_mem _ wi_3_4) (v := .ref (ad 4)) rfl dX6_readConfigs_29 ?_
        refine lv_iload hx hb dX6_readConfigs_32 (lv_at hl 3 rfl) ?_
        refine eb_iald (n := 16) X hw 4 (by decide) rfl rfl (vp_in_iff.mpr ⟨eb_nn (eb_nlt h3), by have := i0_; omega⟩) dX6_readConfigs_34 ?_
        refine lv_i2l (v := (σ.1 4 v4.toNatClampNeg).toInt64) hx hb dX6_readConfigs_35 rfl ?_
        refine lv_lor hx hb dX6_readConfigs_36 ?_
        refine lv_topl (fun x4 ex4 => ?_)
        have hm : (fun (x5 : Int32) => m_X6_readConfigs_13  n σ v1 x4 x5) (v4 + (-1)) = mm := by rw [ex4]; exact hm
        refine lv_lstore_n (lv' := [(2, .long x4), (0, .ref (ad 3)), (1, .int v1), (4, .int v4)]) hx hb dX6_readConfigs_37 rfl hl (by decide) rfl (fun ls hl => ?_)
        obtain ⟨x5, ex5⟩ : ∃ z : Int32, z = v4 + (-1) := ⟨_, rfl⟩
        have hm : m_X6_readConfigs_13  n σ v1 x4 x5 = mm := by rw [ex5]; exact hm
        refine lv_iinc (v := x5) (lv' := [(4, .int x5), (2, .long x4), (0, .ref (ad 3)), (1, .int v1)]) hx hb dX6_readConfigs_38 hl (k := 3) rfl (by rw [ex5]; exact congrArg (v4 + ·) (by decide)) (by decide) rfl (fun ls hl => ?_)
        refine lv_goto (tgt := 13) hx hb dX6_readConfigs_41 (by decide) ?_
        exact ih σ v1 x4 x5 (by have q := (eb_dn (eb_nlt h3) ex5 hn).2.2; omega) (eb_dn (eb_nlt h3) ex5 hn).2.1 hm hw (lv_sub hl [2, 3, 1, 0] rfl)
set_option maxHeartbeats 4000000 in
set_option maxRecDepth 100000 in
theorem c_X6_readConfigs (l : Launch) (D : va_G) (cy : Nat → ClassId) (ad : Nat → Nat) (σ : eb_St) (a0 : Int32)  : eb_M l yX6_readConfigs (Cond.code yX6_readConfigs cX6_readConfigs 5 (some .long) :: wsL_law) 1 21 D 33 cy cL ad σ [.ref (ad 3), .int a0] (some (.long (m_X6_readConfigs σ a0))) σ := by
  refine eb_start (own := RX6) (by decide) rfl rfl (Nat.le_of_ble_eq_true rfl) ?_
  intro p e s m args below meth c A ls X hw hl
  have hl : lv_has ls 5 [(0, .ref (ad 3)), (1, .int a0)] := hl
  have hx := X.1.1
  have hb := X.1.2.1
  have hown := X.1.2.2.2.1
  have hts := X.1.2.2.2.2
  generalize hm : m_X6_readConfigs σ a0 = mm
  have hm : (fun (x1 : Int32) => m_X6_readConfigs_13  ((x1.toInt + 1).toNat + 1) σ a0 0 x1) (if (15 : Int32) < (a0 + 7) then 15 else (a0 + 7)) = mm := hm
  refine lv_lconst (v := 0) hx hb dX6_readConfigs_0 (by decide) ?_
  refine lv_lstore_n (lv' := [(2, .long 0), (0, .ref (ad 3)), (1, .int a0)]) hx hb dX6_readConfigs_1 rfl hl (by decide) rfl (fun ls hl => ?_)
  refine lv_iload_n hx hb dX6_readConfigs_2 rfl (lv_at hl 2 rfl) ?_
  refine lv_bipush (v := 7) hx hb dX6_readConfigs_3 (by decide) ?_
  refine lv_iadd hx hb dX6_readConfigs_5 ?_
  refine lv_bipush (v := 15) hx hb dX6_readConfigs_6 (by decide) ?_
  refine va_mmin hx hb (X.1.2.2.1.trans hl.1.symm) hown (hts _ (List.mem_cons_of_mem _ wi_21_8)) (hts _ (List.mem_cons_of_mem _ wi_21_9)) (hts _ (List.mem_cons_of_mem _ wi_21_10)) (hts _ (List.mem_cons_of_mem _ wi_21_11)) (by decide) (Nat.le_of_ble_eq_true rfl) (by decide) (by decide) dX6_readConfigs_8 ?_
  refine lv_topi (fun x1 ex1 => ?_)
  have hm : m_X6_readConfigs_13  ((x1.toInt + 1).toNat + 1) σ a0 0 x1 = mm := by rw [ex1]; exact hm
  refine lv_istore (lv' := [(4, .int x1), (2, .long 0), (0, .ref (ad 3)), (1, .int a0)]) hx hb dX6_readConfigs_11 hl (by decide) rfl (fun ls hl => ?_)
  exact k_X6_readConfigs_13 X   ((x1.toInt + 1).toNat + 1) σ a0 0 x1 (eb_min15 ex1) (Nat.lt_succ_self _) hm hw (lv_sub hl [2, 3, 1, 0] rfl)

set_option maxHeartbeats 4000000 in
set_option maxRecDepth 100000 in
theorem k_X6_decider_2 {p : Program} {l : Launch} {e : Env} {s : State} {m : MethodId} {args : Array Value} {below : List Frame} {meth : Method} {c : Code} {A : Nat → Prop} {D : va_G} {cy : Nat → ClassId} {ad : Nat → Nat} (X : eb_X p s m args meth c cX6_decider 4 RX6 (Cond.code yX6_decider cX6_decider 4 (some .int) :: wsL_law) (some .int) D cy A)   : ∀ (n : Nat) (σ : eb_St) (v1 : Int32) (v2 : Int32) (v3 : Int32)  (i0_ : 0 ≤ v3.toInt) (hn : ((16 : Int32).toInt - v3.toInt).toNat < n) {H : Heap} {locs : List Loc} {ls : Array Slot} {mm : Int32} (_ : (m_X6_decider_2  n σ v1 v2 v3) = mm) (hw : eb_H D 33 cy cL ad A s.heap σ H locs) (hl : lv_has ls 4 [(0, .ref (ad 3)), (1, .int v1), (2, .int v2), (3, .int v3)]), W p l e ({ frames := 0, cells := 0, slots := 0, locals := 0 } : Room) s m args below meth c H locs 0 0 (MQ below (eb_Q D 33 cy cL ad A (some (.int mm)) σ) args s 0 0 A) (F0 m 2 ls []) := by
  have hx := X.1.1
  have hb := X.1.2.1
  have hown := X.1.2.2.2.1
  have hts := X.1.2.2.2.2
  intro n
  induction n with
  | zero => intro σ v1 v2 v3 i0_ hn; exact absurd hn (Nat.not_lt_zero _)
  | succ n ih =>
    intro σ v1 v2 v3 i0_ hn H locs ls mm hm hw hl
    have hm : (if (16 : Int32) ≤ v3 then (-1) else (if (σ.1 7 v3.toNatClampNeg) ≤ v1 then (fun (x3 : Int32) => m_X6_decider_2  n σ v1 v2 x3) (v3 + 1) else (if v2 ≤ (σ.1 6 v3.toNatClampNeg) then (fun (x5 : Int32) => m_X6_decider_2  n σ v1 v2 x5) (v3 + 1) else v3))) = mm := hm
    refine lv_iload_n hx hb dX6_decider_2 rfl (lv_at hl 3 rfl) ?_
    refine lv_bipush (v := 16) hx hb dX6_decider_3 (by decide) ?_
    refine lv_icmp_ge (tgt := 36) hx hb dX6_decider_5 (by decide) (fun h1 => ?_) (fun h1 => ?_)
    · have hm := (if_pos h1).symm.trans hm
      refine lv_iconst (v := (-1)) hx hb dX6_decider_36 (by decide) ?_
      subst hm
      exact eb_iret X hw rfl rfl rfl dX6_decider_37
    · have hm := (if_neg h1).symm.trans hm
      refine lv_iload_n hx hb dX6_decider_8 rfl (lv_at hl 1 rfl) ?_
      refine lv_aload_n hx hb dX6_decider_9 rfl (lv_at hl 0 rfl) ?_
      refine eb_get (T := TX6) X hw 3 3 (by decide) ⟨rfl, rfl, rfl⟩ (by decide) (fun _ h => List.mem_cons_of_mem _ (inlX6 _ h)) (List.mem_cons_of_mem _ wi_3_7) (v := .ref (ad 7)) rfl dX6_decider_10 ?_
      refine lv_iload_n hx hb dX6_decider_13 rfl (lv_at hl 3 rfl) ?_
      refine eb_iald (n := 16) X hw 7 (by decide) rfl rfl (eb_inU (by decide) i0_ (eb_nle h1)) dX6_decider_14 ?_
      refine lv_icmp_ge (tgt := 30) hx hb dX6_decider_15 (by decide) (fun h2 => ?_) (fun h2 => ?_)
      · have hm := (if_pos h2).symm.trans hm
        obtain ⟨x3, ex3⟩ : ∃ z : Int32, z = v3 + 1 := ⟨_, rfl⟩
        have hm : m_X6_decider_2  n σ v1 v2 x3 = mm := by rw [ex3]; exact hm
        refine lv_iinc (v := x3) (lv' := [(3, .int x3), (0, .ref (ad 3)), (1, .int v1), (2, .int v2)]) hx hb dX6_decider_30 hl (k := 3) rfl (by rw [ex3]; exact congrArg (v3 + ·) (by decide)) (by decide) rfl (fun ls hl => ?_)
        refine lv_goto (tgt := 2) hx hb dX6_decider_33 (by decide) ?_
        exact ih σ v1 v2 x3 (eb_up i0_ (eb_nle h1) ex3 hn).1 (eb_up i0_ (eb_nle h1) ex3 hn).2 hm hw (lv_sub hl [1, 2, 3, 0] rfl)
      · have hm := (if_neg h2).symm.trans hm
        refine lv_aload_n hx hb dX6_decider_18 rfl (lv_at hl 0 rfl) ?_
        refine eb_get (T := TX6) X hw 3 2 (by decide) ⟨rfl, rfl, rfl⟩ (by decide) (fun _ h => List.mem_cons_of_mem _ (inlX6 _ h)) (List.mem_cons_of_mem _ wi_3_6) (v := .ref (ad 6)) rfl dX6_decider_19 ?_
        refine lv_iload_n hx hb dX6_decider_22 rfl (lv_at hl 3 rfl) ?_
        refine eb_iald (n := 16) X hw 6 (by decide) rfl rfl (eb_inU (by decide) i0_ (eb_nle h1)) dX6_decider_23 ?_
        refine lv_iload_n hx hb dX6_decider_24 rfl (lv_at hl 2 rfl) ?_
        refine lv_icmp_ge (tgt := 30) hx hb dX6_decider_25 (by decide) (fun h4 => ?_) (fun h4 => ?_)
        · have hm := (if_pos h4).symm.trans hm
          obtain ⟨x5, ex5⟩ : ∃ z : Int32, z = v3 + 1 := ⟨_, rfl⟩
          have hm : m_X6_decider_2  n σ v1 v2 x5 = mm := by rw [ex5]; exact hm
          refine lv_iinc (v := x5) (lv' := [(3, .int x5), (0, .ref (ad 3)), (1, .int v1), (2, .int v2)]) hx hb dX6_decider_30 hl (k := 3) rfl (by rw [ex5]; exact congrArg (v3 + ·) (by decide)) (by decide) rfl (fun ls hl => ?_)
          refine lv_goto (tgt := 2) hx hb dX6_decider_33 (by decide) ?_
          exact ih σ v1 v2 x5 (eb_up i0_ (eb_nle h1) ex5 hn).1 (eb_up i0_ (eb_nle h1) ex5 hn).2 hm hw (lv_sub hl [1, 2, 3, 0] rfl)
        · have hm := (if_neg h4).symm.trans hm
          refine lv_iload_n hx hb dX6_decider_28 rfl (lv_at hl 3 rfl) ?_
          subst hm
          exact eb_iret X hw rfl rfl rfl dX6_decider_29
set_option maxHeartbeats 4000000 in
set_option maxRecDepth 100000 in
theorem c_X6_decider (l : Launch) (D : va_G) (cy : Nat → ClassId) (ad : Nat → Nat) (σ : eb_St) (a0 : Int32) (a1 : Int32)  : eb_M l yX6_decider (Cond.code yX6_decider cX6_decider 4 (some .int) :: wsL_law) 0 0 D 33 cy cL ad σ [.ref (ad 3), .int a0, .int a1] (some (.int (m_X6_decider σ a0 a1))) σ := by
  refine eb_start (own := RX6) (by decide) rfl rfl (Nat.le_of_ble_eq_true rfl) ?_
  intro p e s m args below meth c A ls X hw hl
  have hl : lv_has ls 4 [(0, .ref (ad 3)), (1, .int a0), (2, .int a1)] := hl
  have hx := X.1.1
  have hb := X.1.2.1
  have hown := X.1.2.2.2.1
  have hts := X.1.2.2.2.2
  generalize hm : m_X6_decider σ a0 a1 = mm
  have hm : m_X6_decider_2  17 σ a0 a1 0 = mm := hm
  refine lv_iconst (v := 0) hx hb dX6_decider_0 (by decide) ?_
  refine lv_istore_n (lv' := [(3, .int 0), (0, .ref (ad 3)), (1, .int a0), (2, .int a1)]) hx hb dX6_decider_1 rfl hl (by decide) rfl (fun ls hl => ?_)
  exact k_X6_decider_2 X   17 σ a0 a1 0 (by decide) (by decide) hm hw (lv_sub hl [1, 2, 3, 0] rfl)

set_option maxHeartbeats 4000000 in
set_option maxRecDepth 100000 in
theorem k_X6_nextBorder_5 {p : Program} {l : Launch} {e : Env} {s : State} {m : MethodId} {args : Array Value} {below : List Frame} {meth : Method} {c : Code} {A : Nat → Prop} {D : va_G} {cy : Nat → ClassId} {ad : Nat → Nat} (X : eb_X p s m args meth c cX6_nextBorder 5 RX6 (Cond.code yX6_nextBorder cX6_nextBorder 5 (some .int) :: wsL_law) (some .int) D cy A)   : ∀ (n : Nat) (σ : eb_St) (v1 : Int32) (v3 : Int32) (v4 : Int32)  (i0_ : 0 ≤ v4.toInt) (hn : ((16 : Int32).toInt - v4.toInt).toNat < n) {H : Heap} {locs : List Loc} {ls : Array Slot} {mm : Int32} (_ : (m_X6_nextBorder_5  n σ v1 v3 v4) = mm) (hw : eb_H D 33 cy cL ad A s.heap σ H locs) (hl : lv_has ls 5 [(0, .ref (ad 3)), (1, .int v1), (3, .int v3), (4, .int v4)]), W p l e ({ frames := 0, cells := 0, slots := 0, locals := 0 } : Room) s m args below meth c H locs 0 0 (MQ below (eb_Q D 33 cy cL ad A (some (.int mm)) σ) args s 0 0 A) (F0 m 5 ls []) := by
  have hx := X.1.1
  have hb := X.1.2.1
  have hown := X.1.2.2.2.1
  have hts := X.1.2.2.2.2
  intro n
  induction n with
  | zero => intro σ v1 v3 v4 i0_ hn; exact absurd hn (Nat.not_lt_zero _)
  | succ n ih =>
    intro σ v1 v3 v4 i0_ hn H locs ls mm hm hw hl
    have hm : (if (16 : Int32) ≤ v4 then v3 else (if (σ.1 6 v4.toNatClampNeg) ≤ v1 then (if (σ.1 7 v4.toNatClampNeg) ≤ v1 then (fun (x4 : Int32) => m_X6_nextBorder_5  n σ v1 v3 x4) (v4 + 1) else (if v3 ≤ (σ.1 7 v4.toNatClampNeg) then (fun (x6 : Int32) => m_X6_nextBorder_5  n σ v1 v3 x6) (v4 + 1) else (fun (x7 : Int32) => (fun (x8 : Int32) => m_X6_nextBorder_5  n σ v1 x7 x8) (v4 + 1)) (σ.1 7 v4.toNatClampNeg))) else (if v3 ≤ (σ.1 6 v4.toNatClampNeg) then (if (σ.1 7 v4.toNatClampNeg) ≤ v1 then (fun (x11 : Int32) => m_X6_nextBorder_5  n σ v1 v3 x11) (v4 + 1) else (if v3 ≤ (σ.1 7 v4.toNatClampNeg) then (fun (x13 : Int32) => m_X6_nextBorder_5  n σ v1 v3 x13) (v4 + 1) else (fun (x14 : Int32) => (fun (x15 : Int32) => m_X6_nextBorder_5  n σ v1 x14 x15) (v4 + 1)) (σ.1 7 v4.toNatClampNeg))) else (fun (x16 : Int32) => (if (σ.1 7 v4.toNatClampNeg) ≤ v1 then (fun (x18 : Int32) => m_X6_nextBorder_5  n σ v1 x16 x18) (v4 + 1) else (if x16 ≤ (σ.1 7 v4.toNatClampNeg) then (fun (x20 : Int32) => m_X6_nextBorder_5  n σ v1 x16 x20) (v4 + 1) else (fun (x21 : Int32) => (fun (x22 : Int32) => m_X6_nextBorder_5  n σ v1 x21 x22) (v4 + 1)) (σ.1 7 v4.toNatClampNeg)))) (σ.1 6 v4.toNatClampNeg)))) = mm := hm
    refine lv_iload hx hb dX6_nextBorder_5 (lv_at hl 3 rfl) ?_
    refine lv_bipush (v := 16) hx hb dX6_nextBorder_7 (by decide) ?_
    refine lv_icmp_ge (tgt := 78) hx hb dX6_nextBorder_9 (by decide) (fun h1 => ?_) (fun h1 => ?_)
    · have hm := (if_pos h1).symm.trans hm
      refine lv_iload_n hx hb dX6_nextBorder_78 rfl (lv_at hl 2 rfl) ?_
      subst hm
      exact eb_iret X hw rfl rfl rfl dX6_nextBorder_79
    · have hm := (if_neg h1).symm.trans hm
      refine lv_aload_n hx hb dX6_nextBorder_12 rfl (lv_at hl 0 rfl) ?_
      refine eb_get (T := TX6) X hw 3 2 (by decide) ⟨rfl, rfl, rfl⟩ (by decide) (fun _ h => List.mem_cons_of_mem _ (inlX6 _ h)) (List.mem_cons_of_mem _ wi_3_6) (v := .ref (ad 6)) rfl dX6_nextBorder_13 ?_
      refine lv_iload hx hb dX6_nextBorder_16 (lv_at hl 3 rfl) ?_
      refine eb_iald (n := 16) X hw 6 (by decide) rfl rfl (eb_inU (by decide) i0_ (eb_nle h1)) dX6_nextBorder_18 ?_
      refine lv_iload_n hx hb dX6_nextBorder_19 rfl (lv_at hl 1 rfl) ?_
      refine lv_icmp_le (tgt := 42) hx hb dX6_nextBorder_20 (by decide) (fun h2 => ?_) (fun h2 => ?_)
      · have hm := (if_pos h2).symm.trans hm
        refine lv_aload_n hx hb dX6_nextBorder_42 rfl (lv_at hl 0 rfl) ?_
        refine eb_get (T := TX6) X hw 3 3 (by decide) ⟨rfl, rfl, rfl⟩ (by decide) (fun _ h => List.mem_cons_of_mem _ (inlX6 _ h)) (List.mem_cons_of_mem _ wi_3_7) (v := .ref (ad 7)) rfl dX6_nextBorder_43 ?_
        refine lv_iload hx hb dX6_nextBorder_46 (lv_at hl 3 rfl) ?_
        refine eb_iald (n := 16) X hw 7 (by decide) rfl rfl (eb_inU (by decide) i0_ (eb_nle h1)) dX6_nextBorder_48 ?_
        refine lv_iload_n hx hb dX6_nextBorder_49 rfl (lv_at hl 1 rfl) ?_
        refine lv_icmp_le (tgt := 72) hx hb dX6_nextBorder_50 (by decide) (fun h3 => ?_) (fun h3 => ?_)
        · have hm := (if_pos h3).symm.trans hm
          obtain ⟨x4, ex4⟩ : ∃ z : Int32, z = v4 + 1 := ⟨_, rfl⟩
          have hm : m_X6_nextBorder_5  n σ v1 v3 x4 = mm := by rw [ex4]; exact hm
          refine lv_iinc (v := x4) (lv' := [(4, .int x4), (0, .ref (ad 3)), (1, .int v1), (3, .int v3)]) hx hb dX6_nextBorder_72 hl (k := 3) rfl (by rw [ex4]; exact congrArg (v4 + ·) (by decide)) (by decide) rfl (fun ls hl => ?_)
          refine lv_goto (tgt := 5) hx hb dX6_nextBorder_75 (by decide) ?_
          exact ih σ v1 v3 x4 (eb_up i0_ (eb_nle h1) ex4 hn).1 (eb_up i0_ (eb_nle h1) ex4 hn).2 hm hw (lv_sub hl [1, 2, 3, 0] rfl)
        · have hm := (if_neg h3).symm.trans hm
          refine lv_aload_n hx hb dX6_nextBorder_53 rfl (lv_at hl 0 rfl) ?_
          refine eb_get (T := TX6) X hw 3 3 (by decide) ⟨rfl, rfl, rfl⟩ (by decide) (fun _ h => List.mem_cons_of_mem _ (inlX6 _ h)) (List.mem_cons_of_mem _ wi_3_7) (v := .ref (ad 7)) rfl dX6_nextBorder_54 ?_
          refine lv_iload hx hb dX6_nextBorder_57 (lv_at hl 3 rfl) ?_
          refine eb_iald (n := 16) X hw 7 (by decide) rfl rfl (eb_inU (by decide) i0_ (eb_nle h1)) dX6_nextBorder_59 ?_
          refine lv_iload_n hx hb dX6_nextBorder_60 rfl (lv_at hl 2 rfl) ?_
          refine lv_icmp_ge (tgt := 72) hx hb dX6_nextBorder_61 (by decide) (fun h5 => ?_) (fun h5 => ?_)
          · have hm := (if_pos h5).symm.trans hm
            obtain ⟨x6, ex6⟩ : ∃ z : Int32, z = v4 + 1 := ⟨_, rfl⟩
            have hm : m_X6_nextBorder_5  n σ v1 v3 x6 = mm := by rw [ex6]; exact hm
            refine lv_iinc (v := x6) (lv' := [(4, .int x6), (0, .ref (ad 3)), (1, .int v1), (3, .int v3)]) hx hb dX6_nextBorder_72 hl (k := 3) rfl (by rw [ex6]; exact congrArg (v4 + ·) (by decide)) (by decide) rfl (fun ls hl => ?_)
            refine lv_goto (tgt := 5) hx hb dX6_nextBorder_75 (by decide) ?_
            exact ih σ v1 v3 x6 (eb_up i0_ (eb_nle h1) ex6 hn).1 (eb_up i0_ (eb_nle h1) ex6 hn).2 hm hw (lv_sub hl [1, 2, 3, 0] rfl)
          · have hm := (if_neg h5).symm.trans hm
            refine lv_aload_n hx hb dX6_nextBorder_64 rfl (lv_at hl 0 rfl) ?_
            refine eb_get (T := TX6) X hw 3 3 (by decide) ⟨rfl, rfl, rfl⟩ (by decide) (fun _ h => List.mem_cons_of_mem _ (inlX6 _ h)) (List.mem_cons_of_mem _ wi_3_7) (v := .ref (ad 7)) rfl dX6_nextBorder_65 ?_
            refine lv_iload hx hb dX6_nextBorder_68 (lv_at hl 3 rfl) ?_
            refine eb_iald (n := 16) X hw 7 (by decide) rfl rfl (eb_inU (by decide) i0_ (eb_nle h1)) dX6_nextBorder_70 ?_
            refine lv_topi (fun x7 ex7 => ?_)
            have hm : (fun (x8 : Int32) => m_X6_nextBorder_5  n σ v1 x7 x8) (v4 + 1) = mm := by rw [ex7]; exact hm
            refine lv_istore_n (lv' := [(3, .int x7), (0, .ref (ad 3)), (1, .int v1), (4, .int v4)]) hx hb dX6_nextBorder_71 rfl hl (by decide) rfl (fun ls hl => ?_)
            obtain ⟨x8, ex8⟩ : ∃ z : Int32, z = v4 + 1 := ⟨_, rfl⟩
            have hm : m_X6_nextBorder_5  n σ v1 x7 x8 = mm := by rw [ex8]; exact hm
            refine lv_iinc (v := x8) (lv' := [(4, .int x8), (3, .int x7), (0, .ref (ad 3)), (1, .int v1)]) hx hb dX6_nextBorder_72 hl (k := 3) rfl (by rw [ex8]; exact congrArg (v4 + ·) (by decide)) (by decide) rfl (fun ls hl => ?_)
            refine lv_goto (tgt := 5) hx hb dX6_nextBorder_75 (by decide) ?_
            exact ih σ v1 x7 x8 (eb_up i0_ (eb_nle h1) ex8 hn).1 (eb_up i0_ (eb_nle h1) ex8 hn).2 hm hw (lv_sub hl [2, 3, 1, 0] rfl)
      · have hm := (if_neg h2).symm.trans hm
        refine lv_aload_n hx hb dX6_nextBorder_23 rfl (lv_at hl 0 rfl) ?_
        refine eb_get (T := TX6) X hw 3 2 (by decide) ⟨rfl, rfl, rfl⟩ (by decide) (fun _ h => List.mem_cons_of_mem _ (inlX6 _ h)) (List.mem_cons_of_mem _ wi_3_6) (v := .ref (ad 6)) rfl dX6_nextBorder_24 ?_
        refine lv_iload hx hb dX6_nextBorder_27 (lv_at hl 3 rfl) ?_
        refine eb_iald (n := 16) X hw 6 (by decide) rfl rfl (eb_inU (by decide) i0_ (eb_nle h1)) dX6_nextBorder_29 ?_
        refine lv_iload_n hx hb dX6_nextBorder_30 rfl (lv_at hl 2 rfl) ?_
        refine lv_icmp_ge (tgt := 42) hx hb dX6_nextBorder_31 (by decide) (fun h9 => ?_) (fun h9 => ?_)
        · have hm := (if_pos h9).symm.trans hm
          refine lv_aload_n hx hb dX6_nextBorder_42 rfl (lv_at hl 0 rfl) ?_
          refine eb_get (T := TX6) X hw 3 3 (by decide) ⟨rfl, rfl, rfl⟩ (by decide) (fun _ h => List.mem_cons_of_mem _ (inlX6 _ h)) (List.mem_cons_of_mem _ wi_3_7) (v := .ref (ad 7)) rfl dX6_nextBorder_43 ?_
          refine lv_iload hx hb dX6_nextBorder_46 (lv_at hl 3 rfl) ?_
          refine eb_iald (n := 16) X hw 7 (by decide) rfl rfl (eb_inU (by decide) i0_ (eb_nle h1)) dX6_nextBorder_48 ?_
          refine lv_iload_n hx hb dX6_nextBorder_49 rfl (lv_at hl 1 rfl) ?_
          refine lv_icmp_le (tgt := 72) hx hb dX6_nextBorder_50 (by decide) (fun h10 => ?_) (fun h10 => ?_)
          · have hm := (if_pos h10).symm.trans hm
            obtain ⟨x11, ex11⟩ : ∃ z : Int32, z = v4 + 1 := ⟨_, rfl⟩
            have hm : m_X6_nextBorder_5  n σ v1 v3 x11 = mm := by rw [ex11]; exact hm
            refine lv_iinc (v := x11) (lv' := [(4, .int x11), (0, .ref (ad 3)), (1, .int v1), (3, .int v3)]) hx hb dX6_nextBorder_72 hl (k := 3) rfl (by rw [ex11]; exact congrArg (v4 + ·) (by decide)) (by decide) rfl (fun ls hl => ?_)
            refine lv_goto (tgt := 5) hx hb dX6_nextBorder_75 (by decide) ?_
            exact ih σ v1 v3 x11 (eb_up i0_ (eb_nle h1) ex11 hn).1 (eb_up i0_ (eb_nle h1) ex11 hn).2 hm hw (lv_sub hl [1, 2, 3, 0] rfl)
          · have hm := (if_neg h10).symm.trans hm
            refine lv_aload_n hx hb dX6_nextBorder_53 rfl (lv_at hl 0 rfl) ?_
            refine eb_get (T := TX6) X hw 3 3 (by decide) ⟨rfl, rfl, rfl⟩ (by decide) (fun _ h => List.mem_cons_of_mem _ (inlX6 _ h)) (List.mem_cons_of_mem _ wi_3_7) (v := .ref (ad 7)) rfl dX6_nextBorder_54 ?_
            refine lv_iload hx hb dX6_nextBorder_57 (lv_at hl 3 rfl) ?_
            refine eb_iald (n := 16) X hw 7 (by decide) rfl rfl (eb_inU (by decide) i0_ (eb_nle h1)) dX6_nextBorder_59 ?_
            refine lv_iload_n hx hb dX6_nextBorder_60 rfl (lv_at hl 2 rfl) ?_
            refine lv_icmp_ge (tgt := 72) hx hb dX6_nextBorder_61 (by decide) (fun h12 => ?_) (fun h12 => ?_)
            · have hm := (if_pos h12).symm.trans hm
              obtain ⟨x13, ex13⟩ : ∃ z : Int32, z = v4 + 1 := ⟨_, rfl⟩
              have hm : m_X6_nextBorder_5  n σ v1 v3 x13 = mm := by rw [ex13]; exact hm
              refine lv_iinc (v := x13) (lv' := [(4, .int x13), (0, .ref (ad 3)), (1, .int v1), (3, .int v3)]) hx hb dX6_nextBorder_72 hl (k := 3) rfl (by rw [ex13]; exact congrArg (v4 + ·) (by decide)) (by decide) rfl (fun ls hl => ?_)
              refine lv_goto (tgt := 5) hx hb dX6_nextBorder_75 (by decide) ?_
              exact ih σ v1 v3 x13 (eb_up i0_ (eb_nle h1) ex13 hn).1 (eb_up i0_ (eb_nle h1) ex13 hn).2 hm hw (lv_sub hl [1, 2, 3, 0] rfl)
            · have hm := (if_neg h12).symm.trans hm
              refine lv_aload_n hx hb dX6_nextBorder_64 rfl (lv_at hl 0 rfl) ?_
              refine eb_get (T := TX6) X hw 3 3 (by decide) ⟨rfl, rfl, rfl⟩ (by decide) (fun _ h => List.mem_cons_of_mem _ (inlX6 _ h)) (List.mem_cons_of_mem _ wi_3_7) (v := .ref (ad 7)) rfl dX6_nextBorder_65 ?_
              refine lv_iload hx hb dX6_nextBorder_68 (lv_at hl 3 rfl) ?_
              refine eb_iald (n := 16) X hw 7 (by decide) rfl rfl (eb_inU (by decide) i0_ (eb_nle h1)) dX6_nextBorder_70 ?_
              refine lv_topi (fun x14 ex14 => ?_)
              have hm : (fun (x15 : Int32) => m_X6_nextBorder_5  n σ v1 x14 x15) (v4 + 1) = mm := by rw [ex14]; exact hm
              refine lv_istore_n (lv' := [(3, .int x14), (0, .ref (ad 3)), (1, .int v1), (4, .int v4)]) hx hb dX6_nextBorder_71 rfl hl (by decide) rfl (fun ls hl => ?_)
              obtain ⟨x15, ex15⟩ : ∃ z : Int32, z = v4 + 1 := ⟨_, rfl⟩
              have hm : m_X6_nextBorder_5  n σ v1 x14 x15 = mm := by rw [ex15]; exact hm
              refine lv_iinc (v := x15) (lv' := [(4, .int x15), (3, .int x14), (0, .ref (ad 3)), (1, .int v1)]) hx hb dX6_nextBorder_72 hl (k := 3) rfl (by rw [ex15]; exact congrArg (v4 + ·) (by decide)) (by decide) rfl (fun ls hl => ?_)
              refine lv_goto (tgt := 5) hx hb dX6_nextBorder_75 (by decide) ?_
              exact ih σ v1 x14 x15 (eb_up i0_ (eb_nle h1) ex15 hn).1 (eb_up i0_ (eb_nle h1) ex15 hn).2 hm hw (lv_sub hl [2, 3, 1, 0] rfl)
        · have hm := (if_neg h9).symm.trans hm
          refine lv_aload_n hx hb dX6_nextBorder_34 rfl (lv_at hl 0 rfl) ?_
          refine eb_get (T := TX6) X hw 3 2 (by decide) ⟨rfl, rfl, rfl⟩ (by decide) (fun _ h => List.mem_cons_of_mem _ (inlX6 _ h)) (List.mem_cons_of_mem _ wi_3_6) (v := .ref (ad 6)) rfl dX6_nextBorder_35 ?_
          refine lv_iload hx hb dX6_nextBorder_38 (lv_at hl 3 rfl) ?_
          refine eb_iald (n := 16) X hw 6 (by decide) rfl rfl (eb_inU (by decide) i0_ (eb_nle h1)) dX6_nextBorder_40 ?_
          refine lv_topi (fun x16 ex16 => ?_)
          have hm : (if (σ.1 7 v4.toNatClampNeg) ≤ v1 then (fun (x18 : Int32) => m_X6_nextBorder_5  n σ v1 x16 x18) (v4 + 1) else (if x16 ≤ (σ.1 7 v4.toNatClampNeg) then (fun (x20 : Int32) => m_X6_nextBorder_5  n σ v1 x16 x20) (v4 + 1) else (fun (x21 : Int32) => (fun (x22 : Int32) => m_X6_nextBorder_5  n σ v1 x21 x22) (v4 + 1)) (σ.1 7 v4.toNatClampNeg))) = mm := by rw [ex16]; exact hm
          refine lv_istore_n (lv' := [(3, .int x16), (0, .ref (ad 3)), (1, .int v1), (4, .int v4)]) hx hb dX6_nextBorder_41 rfl hl (by decide) rfl (fun ls hl => ?_)
          refine lv_aload_n hx hb dX6_nextBorder_42 rfl (lv_at hl 1 rfl) ?_
          refine eb_get (T := TX6) X hw 3 3 (by decide) ⟨rfl, rfl, rfl⟩ (by decide) (fun _ h => List.mem_cons_of_mem _ (inlX6 _ h)) (List.mem_cons_of_mem _ wi_3_7) (v := .ref (ad 7)) rfl dX6_nextBorder_43 ?_
          refine lv_iload hx hb dX6_nextBorder_46 (lv_at hl 3 rfl) ?_
          refine eb_iald (n := 16) X hw 7 (by decide) rfl rfl (eb_inU (by decide) i0_ (eb_nle h1)) dX6_nextBorder_48 ?_
          refine lv_iload_n hx hb dX6_nextBorder_49 rfl (lv_at hl 2 rfl) ?_
          refine lv_icmp_le (tgt := 72) hx hb dX6_nextBorder_50 (by decide) (fun h17 => ?_) (fun h17 => ?_)
          · have hm := (if_pos h17).symm.trans hm
            obtain ⟨x18, ex18⟩ : ∃ z : Int32, z = v4 + 1 := ⟨_, rfl⟩
            have hm : m_X6_nextBorder_5  n σ v1 x16 x18 = mm := by rw [ex18]; exact hm
            refine lv_iinc (v := x18) (lv' := [(4, .int x18), (3, .int x16), (0, .ref (ad 3)), (1, .int v1)]) hx hb dX6_nextBorder_72 hl (k := 3) rfl (by rw [ex18]; exact congrArg (v4 + ·) (by decide)) (by decide) rfl (fun ls hl => ?_)
            refine lv_goto (tgt := 5) hx hb dX6_nextBorder_75 (by decide) ?_
            exact ih σ v1 x16 x18 (eb_up i0_ (eb_nle h1) ex18 hn).1 (eb_up i0_ (eb_nle h1) ex18 hn).2 hm hw (lv_sub hl [2, 3, 1, 0] rfl)
          · have hm := (if_neg h17).symm.trans hm
            refine lv_aload_n hx hb dX6_nextBorder_53 rfl (lv_at hl 1 rfl) ?_
            refine eb_get (T := TX6) X hw 3 3 (by decide) ⟨rfl, rfl, rfl⟩ (by decide) (fun _ h => List.mem_cons_of_mem _ (inlX6 _ h)) (List.mem_cons_of_mem _ wi_3_7) (v := .ref (ad 7)) rfl dX6_nextBorder_54 ?_
            refine lv_iload hx hb dX6_nextBorder_57 (lv_at hl 3 rfl) ?_
            refine eb_iald (n := 16) X hw 7 (by decide) rfl rfl (eb_inU (by decide) i0_ (eb_nle h1)) dX6_nextBorder_59 ?_
            refine lv_iload_n hx hb dX6_nextBorder_60 rfl (lv_at hl 0 rfl) ?_
            refine lv_icmp_ge (tgt := 72) hx hb dX6_nextBorder_61 (by decide) (fun h19 => ?_) (fun h19 => ?_)
            · have hm := (if_pos h19).symm.trans hm
              obtain ⟨x20, ex20⟩ : ∃ z : Int32, z = v4 + 1 := ⟨_, rfl⟩
              have hm : m_X6_nextBorder_5  n σ v1 x16 x20 = mm := by rw [ex20]; exact hm
              refine lv_iinc (v := x20) (lv' := [(4, .int x20), (3, .int x16), (0, .ref (ad 3)), (1, .int v1)]) hx hb dX6_nextBorder_72 hl (k := 3) rfl (by rw [ex20]; exact congrArg (v4 + ·) (by decide)) (by decide) rfl (fun ls hl => ?_)
              refine lv_goto (tgt := 5) hx hb dX6_nextBorder_75 (by decide) ?_
              exact ih σ v1 x16 x20 (eb_up i0_ (eb_nle h1) ex20 hn).1 (eb_up i0_ (eb_nle h1) ex20 hn).2 hm hw (lv_sub hl [2, 3, 1, 0] rfl)
            · have hm := (if_neg h19).symm.trans hm
              refine lv_aload_n hx hb dX6_nextBorder_64 rfl (lv_at hl 1 rfl) ?_
              refine eb_get (T := TX6) X hw 3 3 (by decide) ⟨rfl, rfl, rfl⟩ (by decide) (fun _ h => List.mem_cons_of_mem _ (inlX6 _ h)) (List.mem_cons_of_mem _ wi_3_7) (v := .ref (ad 7)) rfl dX6_nextBorder_65 ?_
              refine lv_iload hx hb dX6_nextBorder_68 (lv_at hl 3 rfl) ?_
              refine eb_iald (n := 16) X hw 7 (by decide) rfl rfl (eb_inU (by decide) i0_ (eb_nle h1)) dX6_nextBorder_70 ?_
              refine lv_topi (fun x21 ex21 => ?_)
              have hm : (fun (x22 : Int32) => m_X6_nextBorder_5  n σ v1 x21 x22) (v4 + 1) = mm := by rw [ex21]; exact hm
              refine lv_istore_n (lv' := [(3, .int x21), (0, .ref (ad 3)), (1, .int v1), (4, .int v4)]) hx hb dX6_nextBorder_71 rfl hl (by decide) rfl (fun ls hl => ?_)
              obtain ⟨x22, ex22⟩ : ∃ z : Int32, z = v4 + 1 := ⟨_, rfl⟩
              have hm : m_X6_nextBorder_5  n σ v1 x21 x22 = mm := by rw [ex22]; exact hm
              refine lv_iinc (v := x22) (lv' := [(4, .int x22), (3, .int x21), (0, .ref (ad 3)), (1, .int v1)]) hx hb dX6_nextBorder_72 hl (k := 3) rfl (by rw [ex22]; exact congrArg (v4 + ·) (by decide)) (by decide) rfl (fun ls hl => ?_)
              refine lv_goto (tgt := 5) hx hb dX6_nextBorder_75 (by decide) ?_
              exact ih σ v1 x21 x22 (eb_up i0_ (eb_nle h1) ex22 hn).1 (eb_up i0_ (eb_nle h1) ex22 hn).2 hm hw (lv_sub hl [2, 3, 1, 0] rfl)
set_option maxHeartbeats 4000000 in
set_option maxRecDepth 100000 in
theorem c_X6_nextBorder (l : Launch) (D : va_G) (cy : Nat → ClassId) (ad : Nat → Nat) (σ : eb_St) (a0 : Int32) (a1 : Int32)  : eb_M l yX6_nextBorder (Cond.code yX6_nextBorder cX6_nextBorder 5 (some .int) :: wsL_law) 0 0 D 33 cy cL ad σ [.ref (ad 3), .int a0, .int a1] (some (.int (m_X6_nextBorder σ a0 a1))) σ := by
  refine eb_start (own := RX6) (by decide) rfl rfl (Nat.le_of_ble_eq_true rfl) ?_
  intro p e s m args below meth c A ls X hw hl
  have hl : lv_has ls 5 [(0, .ref (ad 3)), (1, .int a0), (2, .int a1)] := hl
  have hx := X.1.1
  have hb := X.1.2.1
  have hown := X.1.2.2.2.1
  have hts := X.1.2.2.2.2
  generalize hm : m_X6_nextBorder σ a0 a1 = mm
  have hm : m_X6_nextBorder_5  17 σ a0 a1 0 = mm := hm
  refine lv_iload_n hx hb dX6_nextBorder_0 rfl (lv_at hl 2 rfl) ?_
  refine lv_istore_n (lv' := [(3, .int a1), (0, .ref (ad 3)), (1, .int a0), (2, .int a1)]) hx hb dX6_nextBorder_1 rfl hl (by decide) rfl (fun ls hl => ?_)
  refine lv_iconst (v := 0) hx hb dX6_nextBorder_2 (by decide) ?_
  refine lv_istore (lv' := [(4, .int 0), (3, .int a1), (0, .ref (ad 3)), (1, .int a0), (2, .int a1)]) hx hb dX6_nextBorder_3 hl (by decide) rfl (fun ls hl => ?_)
  exact k_X6_nextBorder_5 X   17 σ a0 a1 0 (by decide) (by decide) hm hw (lv_sub hl [2, 3, 1, 0] rfl)

set_option maxHeartbeats 4000000 in
set_option maxRecDepth 100000 in
theorem k_X6_lets_101 {p : Program} {l : Launch} {e : Env} {s : State} {m : MethodId} {args : Array Value} {below : List Frame} {meth : Method} {c : Code} {A : Nat → Prop} {H : Heap} {locs : List Loc} {ls : Array Slot} {D : va_G} {cy : Nat → ClassId} {ad : Nat → Nat} (X : eb_X p s m args meth c cX6_lets 8 RX6 (Cond.code yX6_lets cX6_lets 8 (some .boolean) :: wsL_law) (some .boolean) D cy A)   (σ : eb_St) (v5 : Int32) (v7 : Int32) (hi_ : vp_in v7 16) {mm : Bool} (hm : (m_X6_lets_101  σ v5 v7) = mm) (hw : eb_H D 33 cy cL ad A s.heap σ H locs) (hl : lv_has ls 8 [(0, .ref (ad 3)), (5, .int v5), (7, .int v7)]) : W p l e ({ frames := 1, cells := 0, slots := 0, locals := 23 } : Room) s m args below meth c H locs 0 0 (MQ below (eb_Q D 33 cy cL ad A (some (.int (eb_b mm))) σ) args s 0 0 A) (F0 m 101 ls []) := by
  have hx := X.1.1
  have hb := X.1.2.1
  have hown := X.1.2.2.2.1
  have hts := X.1.2.2.2.2
  have hm : (if ((σ.1 4 v7.toNatClampNeg) &&& v5) = 0 then false else true) = mm := hm
  refine lv_aload_n hx hb dX6_lets_101 rfl (lv_at hl 0 rfl) ?_
  refine eb_get (T := TX6) X hw 3 0 (by decide) ⟨rfl, rfl, rfl⟩ (by decide) (fun _ h => List.mem_cons_of_mem _ (inlX6 _ h)) (List.mem_cons_of_mem _ wi_3_4) (v := .ref (ad 4)) rfl dX6_lets_102 ?_
  refine lv_iload hx hb dX6_lets_105 (lv_at hl 2 rfl) ?_
  refine eb_iald (n := 16) X hw 4 (by decide) rfl rfl hi_ dX6_lets_107 ?_
  refine lv_iload hx hb dX6_lets_108 (lv_at hl 1 rfl) ?_
  refine lv_iand hx hb dX6_lets_110 ?_
  refine lv_if_eq (tgt := 118) hx hb dX6_lets_111 (by decide) (fun h11 => ?_) (fun h11 => ?_)
  · have hm := (if_pos h11).symm.trans hm
    refine lv_iconst (v := 0) hx hb dX6_lets_118 (by decide) ?_
    subst hm
    exact eb_zret X hw rfl rfl rfl rfl dX6_lets_119
  · have hm := (if_neg h11).symm.trans hm
    refine lv_iconst (v := 1) hx hb dX6_lets_114 (by decide) ?_
    refine lv_goto (tgt := 119) hx hb dX6_lets_115 (by decide) ?_
    subst hm
    exact eb_zret X hw rfl rfl rfl rfl dX6_lets_119
set_option maxHeartbeats 4000000 in
set_option maxRecDepth 100000 in
theorem c_X6_lets (l : Launch) (D : va_G) (cy : Nat → ClassId) (ad : Nat → Nat) (σ : eb_St) (a0 : Int32) (a1 : Int64) (a2 : Int32) (a3 : Int32)  : eb_M l yX6_lets (Cond.code yX6_lets cX6_lets 8 (some .boolean) :: wsL_law) 1 23 D 33 cy cL ad σ [.ref (ad 3), .int a0, .long a1, .int a2, .int a3] (some (.int (eb_b (m_X6_lets σ a0 a1 a2 a3)))) σ := by
  refine eb_start (own := RX6) (by decide) rfl rfl (Nat.le_of_ble_eq_true rfl) ?_
  intro p e s m args below meth c A ls X hw hl
  have hl : lv_has ls 8 [(0, .ref (ad 3)), (1, .int a0), (2, .long a1), (4, .int a2), (5, .int a3)] := hl
  have hx := X.1.1
  have hb := X.1.2.1
  have hown := X.1.2.2.2.1
  have hts := X.1.2.2.2.2
  generalize hm : m_X6_lets σ a0 a1 a2 a3 = mm
  have hm : (if a1 < 0 then false else (if a1 ≤ ((65536 - a2).toInt64) then (fun (x3 : Int32) => (fun (z4 : Int32) => (if z4 = (-1) then (if a0 = 3 then true else false) else (if x3 < (σ.1 6 z4.toNatClampNeg) then false else (if (x3 + a2) ≤ (σ.1 7 z4.toNatClampNeg) then (if a0 = 3 then (if ((σ.1 4 z4.toNatClampNeg) &&& 128) = 0 then true else m_X6_lets_101  σ a3 z4) else m_X6_lets_101  σ a3 z4) else false)))) (m_X6_decider σ x3 (x3 + a2))) (a1.toInt32) else false)) = mm := hm
  refine lv_lload_n hx hb dX6_lets_0 rfl (lv_at hl 2 rfl) ?_
  refine lv_lconst (v := 0) hx hb dX6_lets_1 (by decide) ?_
  refine eb_lif_lt (tgt := 17) hx hb dX6_lets_2 dX6_lets_3 (by decide) (fun h1 => ?_) (fun h1 => ?_)
  · have hm := (if_pos h1).symm.trans hm
    refine lv_iconst (v := 0) hx hb dX6_lets_17 (by decide) ?_
    subst hm
    exact eb_zret X hw rfl rfl rfl rfl dX6_lets_18
  · have hm := (if_neg h1).symm.trans hm
    refine lv_lload_n hx hb dX6_lets_6 rfl (lv_at hl 2 rfl) ?_
    refine lv_ldc hx hb hown (hts _ (List.mem_cons_of_mem _ wi_14_2)) dX6_lets_7 ?_
    refine lv_iload hx hb dX6_lets_9 (lv_at hl 3 rfl) ?_
    refine lv_isub hx hb dX6_lets_11 ?_
    refine lv_i2l (v := (65536 - a2).toInt64) hx hb dX6_lets_12 rfl ?_
    refine eb_lif_le (tgt := 19) hx hb dX6_lets_13 dX6_lets_14 (by decide) (fun h2 => ?_) (fun h2 => ?_)
    · have hm := (if_pos h2).symm.trans hm
      refine lv_lload_n hx hb dX6_lets_19 rfl (lv_at hl 2 rfl) ?_
      refine lv_l2i (v := a1.toInt32) hx hb dX6_lets_20 rfl ?_
      refine lv_topi (fun x3 ex3 => ?_)
      have hm : (fun (z4 : Int32) => (if z4 = (-1) then (if a0 = 3 then true else false) else (if x3 < (σ.1 6 z4.toNatClampNeg) then false else (if (x3 + a2) ≤ (σ.1 7 z4.toNatClampNeg) then (if a0 = 3 then (if ((σ.1 4 z4.toNatClampNeg) &&& 128) = 0 then true else m_X6_lets_101  σ a3 z4) else m_X6_lets_101  σ a3 z4) else false)))) (m_X6_decider σ x3 (x3 + a2)) = mm := by rw [ex3]; exact hm
      refine lv_istore (lv' := [(6, .int x3), (0, .ref (ad 3)), (1, .int a0), (2, .long a1), (4, .int a2), (5, .int a3)]) hx hb dX6_lets_21 hl (by decide) rfl (fun ls hl => ?_)
      refine lv_aload_n hx hb dX6_lets_23 rfl (lv_at hl 1 rfl) ?_
      refine lv_iload hx hb dX6_lets_24 (lv_at hl 0 rfl) ?_
      refine lv_iload hx hb dX6_lets_26 (lv_at hl 0 rfl) ?_
      refine lv_iload hx hb dX6_lets_28 (lv_at hl 4 rfl) ?_
      refine lv_iadd hx hb dX6_lets_30 ?_
      obtain ⟨z4, qz4⟩ : ∃ t : Int32, t = m_X6_decider σ x3 (x3 + a2) := ⟨_, rfl⟩
      have hm : (if z4 = (-1) then (if a0 = 3 then true else false) else (if x3 < (σ.1 6 z4.toNatClampNeg) then false else (if (x3 + a2) ≤ (σ.1 7 z4.toNatClampNeg) then (if a0 = 3 then (if ((σ.1 4 z4.toNatClampNeg) &&& 128) = 0 then true else m_X6_lets_101  σ a3 z4) else m_X6_lets_101  σ a3 z4) else false))) = mm := by rw [qz4]; exact hm
      have hc : eb_M l yX6_decider (Cond.code yX6_decider cX6_decider 4 (some .int) :: wsL_law) 0 0 D 33 cy cL ad σ [.ref (ad 3), .int x3, .int (x3 + a2)] (some (.int z4)) σ := by rw [qz4]; exact c_X6_decider l D cy ad σ x3 (x3 + a2)
      have dz4 : z4 = -1 ∨ vp_in z4 16 := by rw [qz4]; exact l_X6_decider _ _ _
      refine eb_callV (n := 2) (as := [.int x3, .int (x3 + a2)]) (rest := []) X hw hl.1 3 hc (by decide) ⟨rfl, rfl, rfl⟩ (eb_goodV wi_15_4 wi_15_5 wi_15_6 wi_1_23 wi_15_7) rfl (by decide +kernel) ⟨by decide, by decide⟩ rfl rfl (Nat.le_of_ble_eq_true rfl) dX6_lets_31 ⟨by decide, by decide⟩ (st' := [.int z4]) rfl (fun H locs hw => ?_)
      refine lv_istore (lv' := [(7, .int z4), (6, .int x3), (0, .ref (ad 3)), (1, .int a0), (2, .long a1), (4, .int a2), (5, .int a3)]) hx hb dX6_lets_34 hl (by decide) rfl (fun ls hl => ?_)
      refine lv_iload hx hb dX6_lets_36 (lv_at hl 0 rfl) ?_
      refine lv_iconst (v := (-1)) hx hb dX6_lets_38 (by decide) ?_
      refine lv_icmp_ne (tgt := 53) hx hb dX6_lets_39 (by decide) (fun h5 => ?_) (fun h5 => ?_)
      · have hm := (if_neg h5).symm.trans hm
        refine lv_iload hx hb dX6_lets_53 (lv_at hl 1 rfl) ?_
        refine lv_aload_n hx hb dX6_lets_55 rfl (lv_at hl 2 rfl) ?_
        refine eb_get (T := TX6) X hw 3 2 (by decide) ⟨rfl, rfl, rfl⟩ (by decide) (fun _ h => List.mem_cons_of_mem _ (inlX6 _ h)) (List.mem_cons_of_mem _ wi_3_6) (v := .ref (ad 6)) rfl dX6_lets_56 ?_
        refine lv_iload hx hb dX6_lets_59 (lv_at hl 0 rfl) ?_
        refine eb_iald (n := 16) X hw 6 (by decide) rfl rfl (eb_or_in dz4 h5) dX6_lets_61 ?_
        refine lv_icmp_lt (tgt := 80) hx hb dX6_lets_62 (by decide) (fun h6 => ?_) (fun h6 => ?_)
        · have hm := (if_pos h6).symm.trans hm
          refine lv_iconst (v := 0) hx hb dX6_lets_80 (by decide) ?_
          subst hm
          exact eb_zret X hw rfl rfl rfl rfl dX6_lets_81
        · have hm := (if_neg h6).symm.trans hm
          refine lv_iload hx hb dX6_lets_65 (lv_at hl 1 rfl) ?_
          refine lv_iload hx hb dX6_lets_67 (lv_at hl 5 rfl) ?_
          refine lv_iadd hx hb dX6_lets_69 ?_
          refine lv_aload_n hx hb dX6_lets_70 rfl (lv_at hl 2 rfl) ?_
          refine eb_get (T := TX6) X hw 3 3 (by decide) ⟨rfl, rfl, rfl⟩ (by decide) (fun _ h => List.mem_cons_of_mem _ (inlX6 _ h)) (List.mem_cons_of_mem _ wi_3_7) (v := .ref (ad 7)) rfl dX6_lets_71 ?_
          refine lv_iload hx hb dX6_lets_74 (lv_at hl 0 rfl) ?_
          refine eb_iald (n := 16) X hw 7 (by decide) rfl rfl (eb_or_in dz4 h5) dX6_lets_76 ?_
          refine lv_icmp_le (tgt := 82) hx hb dX6_lets_77 (by decide) (fun h7 => ?_) (fun h7 => ?_)
          · have hm := (if_pos h7).symm.trans hm
            refine lv_iload_n hx hb dX6_lets_82 rfl (lv_at hl 3 rfl) ?_
            refine lv_iconst (v := 3) hx hb dX6_lets_83 (by decide) ?_
            refine lv_icmp_ne (tgt := 101) hx hb dX6_lets_84 (by decide) (fun h8 => ?_) (fun h8 => ?_)
            · have hm := (if_neg h8).symm.trans hm
              exact k_X6_lets_101 X   σ a3 z4 (eb_or_in dz4 h5) hm hw (lv_sub hl [2, 6, 0] rfl)
            · have hm := (if_pos h8).symm.trans hm
              refine lv_aload_n hx hb dX6_lets_87 rfl (lv_at hl 2 rfl) ?_
              refine eb_get (T := TX6) X hw 3 0 (by decide) ⟨rfl, rfl, rfl⟩ (by decide) (fun _ h => List.mem_cons_of_mem _ (inlX6 _ h)) (List.mem_cons_of_mem _ wi_3_4) (v := .ref (ad 4)) rfl dX6_lets_88 ?_
              refine lv_iload hx hb dX6_lets_91 (lv_at hl 0 rfl) ?_
              refine eb_iald (n := 16) X hw 4 (by decide) rfl rfl (eb_or_in dz4 h5) dX6_lets_93 ?_
              refine lv_sipush (v := 128) hx hb dX6_lets_94 (by decide) ?_
              refine lv_iand hx hb dX6_lets_97 ?_
              refine lv_if_eq (tgt := 114) hx hb dX6_lets_98 (by decide) (fun h9 => ?_) (fun h9 => ?_)
              · have hm := (if_pos h9).symm.trans hm
                refine lv_iconst (v := 1) hx hb dX6_lets_114 (by decide) ?_
                refine lv_goto (tgt := 119) hx hb dX6_lets_115 (by decide) ?_
                subst hm
                exact eb_zret X hw rfl rfl rfl rfl dX6_lets_119
              · have hm := (if_neg h9).symm.trans hm
                exact k_X6_lets_101 X   σ a3 z4 (eb_or_in dz4 h5) hm hw (lv_sub hl [2, 6, 0] rfl)
          · have hm := (if_neg h7).symm.trans hm
            refine lv_iconst (v := 0) hx hb dX6_lets_80 (by decide) ?_
            subst hm
            exact eb_zret X hw rfl rfl rfl rfl dX6_lets_81
      · have hm := (if_pos h5).symm.trans hm
        refine lv_iload_n hx hb dX6_lets_42 rfl (lv_at hl 3 rfl) ?_
        refine lv_iconst (v := 3) hx hb dX6_lets_43 (by decide) ?_
        refine lv_icmp_ne (tgt := 51) hx hb dX6_lets_44 (by decide) (fun h10 => ?_) (fun h10 => ?_)
        · have hm := (if_neg h10).symm.trans hm
          refine lv_iconst (v := 0) hx hb dX6_lets_51 (by decide) ?_
          subst hm
          exact eb_zret X hw rfl rfl rfl rfl dX6_lets_52
        · have hm := (if_pos h10).symm.trans hm
          refine lv_iconst (v := 1) hx hb dX6_lets_47 (by decide) ?_
          refine lv_goto (tgt := 52) hx hb dX6_lets_48 (by decide) ?_
          subst hm
          exact eb_zret X hw rfl rfl rfl rfl dX6_lets_52
    · have hm := (if_neg h2).symm.trans hm
      refine lv_iconst (v := 0) hx hb dX6_lets_17 (by decide) ?_
      subst hm
      exact eb_zret X hw rfl rfl rfl rfl dX6_lets_18

set_option maxHeartbeats 4000000 in
set_option maxRecDepth 100000 in
theorem k_X6_letsEach_74 {p : Program} {l : Launch} {e : Env} {s : State} {m : MethodId} {args : Array Value} {below : List Frame} {meth : Method} {c : Code} {A : Nat → Prop} {H : Heap} {locs : List Loc} {ls : Array Slot} {D : va_G} {cy : Nat → ClassId} {ad : Nat → Nat} (X : eb_X p s m args meth c cX6_letsEach 8 RX6 (Cond.code yX6_letsEach cX6_letsEach 8 (some .boolean) :: wsL_law) (some .boolean) D cy A)   (σ : eb_St) (v4 : Int32) (v5 : Int32)  {mm : Bool} (hm : (m_X6_letsEach_74  σ v4 v5) = mm) (hw : eb_H D 33 cy cL ad A s.heap σ H locs) (hl : lv_has ls 8 [(4, .int v4), (5, .int v5)]) : W p l e ({ frames := 1, cells := 0, slots := 0, locals := 24 } : Room) s m args below meth c H locs 0 0 (MQ below (eb_Q D 33 cy cL ad A (some (.int (eb_b mm))) σ) args s 0 0 A) (F0 m 74 ls []) := by
  have hx := X.1.1
  have hb := X.1.2.1
  have hown := X.1.2.2.2.1
  have hts := X.1.2.2.2.2
  have hm : (if v5 < v4 then false else true) = mm := hm
  refine lv_iload hx hb dX6_letsEach_74 (lv_at hl 1 rfl) ?_
  refine lv_iload hx hb dX6_letsEach_76 (lv_at hl 0 rfl) ?_
  refine lv_icmp_lt (tgt := 85) hx hb dX6_letsEach_78 (by decide) (fun h9 => ?_) (fun h9 => ?_)
  · have hm := (if_pos h9).symm.trans hm
    refine lv_iconst (v := 0) hx hb dX6_letsEach_85 (by decide) ?_
    subst hm
    exact eb_zret X hw rfl rfl rfl rfl dX6_letsEach_86
  · have hm := (if_neg h9).symm.trans hm
    refine lv_iconst (v := 1) hx hb dX6_letsEach_81 (by decide) ?_
    refine lv_goto (tgt := 86) hx hb dX6_letsEach_82 (by decide) ?_
    subst hm
    exact eb_zret X hw rfl rfl rfl rfl dX6_letsEach_86
set_option maxHeartbeats 4000000 in
set_option maxRecDepth 100000 in
theorem k_X6_letsEach_11 {p : Program} {l : Launch} {e : Env} {s : State} {m : MethodId} {args : Array Value} {below : List Frame} {meth : Method} {c : Code} {A : Nat → Prop} {D : va_G} {cy : Nat → ClassId} {ad : Nat → Nat} (X : eb_X p s m args meth c cX6_letsEach 8 RX6 (Cond.code yX6_letsEach cX6_letsEach 8 (some .boolean) :: wsL_law) (some .boolean) D cy A)   : ∀ (n : Nat) (σ : eb_St) (v3 : Int32) (v4 : Int32) (v5 : Int32) (v6 : Int32)  (i0_ : 0 ≤ v6.toInt) (hn : ((33 : Int32).toInt - v6.toInt).toNat < n) {H : Heap} {locs : List Loc} {ls : Array Slot} {mm : Bool} (_ : (m_X6_letsEach_11  n σ v3 v4 v5 v6) = mm) (hw : eb_H D 33 cy cL ad A s.heap σ H locs) (hl : lv_has ls 8 [(0, .ref (ad 3)), (3, .int v3), (4, .int v4), (5, .int v5), (6, .int v6)]), W p l e ({ frames := 1, cells := 0, slots := 0, locals := 24 } : Room) s m args below meth c H locs 0 0 (MQ below (eb_Q D 33 cy cL ad A (some (.int (eb_b mm))) σ) args s 0 0 A) (F0 m 11 ls []) := by
  have hx := X.1.1
  have hb := X.1.2.1
  have hown := X.1.2.2.2.1
  have hts := X.1.2.2.2.2
  intro n
  induction n with
  | zero => intro σ v3 v4 v5 v6 i0_ hn; exact absurd hn (Nat.not_lt_zero _)
  | succ n ih =>
    intro σ v3 v4 v5 v6 i0_ hn H locs ls mm hm hw hl
    have hm : (if (32 : Int32) < v6 then m_X6_letsEach_74  σ v4 v5 else (if v4 ≤ v5 then m_X6_letsEach_74  σ v4 v5 else (fun (z4 : Int32) => (if z4 = (-1) then false else (if ((σ.1 4 z4.toNatClampNeg) &&& v3) = v3 then (fun (z7 : Int32) => (fun (x8 : Int32) => m_X6_letsEach_11  n σ v3 v4 z7 x8) (v6 + 1)) (m_X6_nextBorder σ v5 v4) else false))) (m_X6_decider σ v5 (v5 + 1)))) = mm := hm
    refine lv_iload hx hb dX6_letsEach_11 (lv_at hl 4 rfl) ?_
    refine lv_bipush (v := 32) hx hb dX6_letsEach_13 (by decide) ?_
    refine lv_icmp_gt (tgt := 74) hx hb dX6_letsEach_15 (by decide) (fun h2 => ?_) (fun h2 => ?_)
    · have hm := (if_pos h2).symm.trans hm
      exact k_X6_letsEach_74 X   σ v4 v5 hm hw (lv_sub hl [2, 3] rfl)
    · have hm := (if_neg h2).symm.trans hm
      refine lv_iload hx hb dX6_letsEach_18 (lv_at hl 3 rfl) ?_
      refine lv_iload hx hb dX6_letsEach_20 (lv_at hl 2 rfl) ?_
      refine lv_icmp_ge (tgt := 74) hx hb dX6_letsEach_22 (by decide) (fun h3 => ?_) (fun h3 => ?_)
      · have hm := (if_pos h3).symm.trans hm
        exact k_X6_letsEach_74 X   σ v4 v5 hm hw (lv_sub hl [2, 3] rfl)
      · have hm := (if_neg h3).symm.trans hm
        refine lv_aload_n hx hb dX6_letsEach_25 rfl (lv_at hl 0 rfl) ?_
        refine lv_iload hx hb dX6_letsEach_26 (lv_at hl 3 rfl) ?_
        refine lv_iload hx hb dX6_letsEach_28 (lv_at hl 3 rfl) ?_
        refine lv_iconst (v := 1) hx hb dX6_letsEach_30 (by decide) ?_
        refine lv_iadd hx hb dX6_letsEach_31 ?_
        obtain ⟨z4, qz4⟩ : ∃ t : Int32, t = m_X6_decider σ v5 (v5 + 1) := ⟨_, rfl⟩
        have hm : (if z4 = (-1) then false else (if ((σ.1 4 z4.toNatClampNeg) &&& v3) = v3 then (fun (z7 : Int32) => (fun (x8 : Int32) => m_X6_letsEach_11  n σ v3 v4 z7 x8) (v6 + 1)) (m_X6_nextBorder σ v5 v4) else false)) = mm := by rw [qz4]; exact hm
        have hc : eb_M l yX6_decider (Cond.code yX6_decider cX6_decider 4 (some .int) :: wsL_law) 0 0 D 33 cy cL ad σ [.ref (ad 3), .int v5, .int (v5 + 1)] (some (.int z4)) σ := by rw [qz4]; exact c_X6_decider l D cy ad σ v5 (v5 + 1)
        have dz4 : z4 = -1 ∨ vp_in z4 16 := by rw [qz4]; exact l_X6_decider _ _ _
        refine eb_callV (n := 2) (as := [.int v5, .int (v5 + 1)]) (rest := []) X hw hl.1 3 hc (by decide) ⟨rfl, rfl, rfl⟩ (eb_goodV wi_15_4 wi_15_5 wi_15_6 wi_1_23 wi_15_7) rfl (by decide +kernel) ⟨by decide, by decide⟩ rfl rfl (Nat.le_of_ble_eq_true rfl) dX6_letsEach_32 ⟨by decide, by decide⟩ (st' := [.int z4]) rfl (fun H locs hw => ?_)
        refine lv_istore (lv' := [(7, .int z4), (0, .ref (ad 3)), (3, .int v3), (4, .int v4), (5, .int v5), (6, .int v6)]) hx hb dX6_letsEach_35 hl (by decide) rfl (fun ls hl => ?_)
        refine lv_iload hx hb dX6_letsEach_37 (lv_at hl 0 rfl) ?_
        refine lv_iconst (v := (-1)) hx hb dX6_letsEach_39 (by decide) ?_
        refine lv_icmp_eq (tgt := 56) hx hb dX6_letsEach_40 (by decide) (fun h5 => ?_) (fun h5 => ?_)
        · have hm := (if_pos h5).symm.trans hm
          refine lv_iconst (v := 0) hx hb dX6_letsEach_56 (by decide) ?_
          subst hm
          exact eb_zret X hw rfl rfl rfl rfl dX6_letsEach_57
        · have hm := (if_neg h5).symm.trans hm
          refine lv_aload_n hx hb dX6_letsEach_43 rfl (lv_at hl 1 rfl) ?_
          refine eb_get (T := TX6) X hw 3 0 (by decide) ⟨rfl, rfl, rfl⟩ (by decide) (fun _ h => List.mem_cons_of_mem _ (inlX6 _ h)) (List.mem_cons_of_mem _ wi_3_4) (v := .ref (ad 4)) rfl dX6_letsEach_44 ?_
          refine lv_iload hx hb dX6_letsEach_47 (lv_at hl 0 rfl) ?_
          refine eb_iald (n := 16) X hw 4 (by decide) rfl rfl (eb_or_in dz4 h5) dX6_letsEach_49 ?_
          refine lv_iload_n hx hb dX6_letsEach_50 rfl (lv_at hl 2 rfl) ?_
          refine lv_iand hx hb dX6_letsEach_51 ?_
          refine lv_iload_n hx hb dX6_letsEach_52 rfl (lv_at hl 2 rfl) ?_
          refine lv_icmp_eq (tgt := 58) hx hb dX6_letsEach_53 (by decide) (fun h6 => ?_) (fun h6 => ?_)
          · have hm := (if_pos h6).symm.trans hm
            refine lv_aload_n hx hb dX6_letsEach_58 rfl (lv_at hl 1 rfl) ?_
            refine lv_iload hx hb dX6_letsEach_59 (lv_at hl 4 rfl) ?_
            refine lv_iload hx hb dX6_letsEach_61 (lv_at hl 3 rfl) ?_
            obtain ⟨z7, qz7⟩ : ∃ t : Int32, t = m_X6_nextBorder σ v5 v4 := ⟨_, rfl⟩
            have hm : (fun (x8 : Int32) => m_X6_letsEach_11  n σ v3 v4 z7 x8) (v6 + 1) = mm := by rw [qz7]; exact hm
            have hc : eb_M l yX6_nextBorder (Cond.code yX6_nextBorder cX6_nextBorder 5 (some .int) :: wsL_law) 0 0 D 33 cy cL ad σ [.ref (ad 3), .int v5, .int v4] (some (.int z7)) σ := by rw [qz7]; exact c_X6_nextBorder l D cy ad σ v5 v4
            refine eb_callV (n := 2) (as := [.int v5, .int v4]) (rest := []) X hw hl.1 3 hc (by decide) ⟨rfl, rfl, rfl⟩ (eb_goodV wi_26_7 wi_26_8 wi_26_9 wi_1_23 wi_26_10) rfl (by decide +kernel) ⟨by decide, by decide⟩ rfl rfl (Nat.le_of_ble_eq_true rfl) dX6_letsEach_63 ⟨by decide, by decide⟩ (st' := [.int z7]) rfl (fun H locs hw => ?_)
            refine lv_istore (lv' := [(5, .int z7), (7, .int z4), (0, .ref (ad 3)), (3, .int v3), (4, .int v4), (6, .int v6)]) hx hb dX6_letsEach_66 hl (by decide) rfl (fun ls hl => ?_)
            obtain ⟨x8, ex8⟩ : ∃ z : Int32, z = v6 + 1 := ⟨_, rfl⟩
            have hm : m_X6_letsEach_11  n σ v3 v4 z7 x8 = mm := by rw [ex8]; exact hm
            refine lv_iinc (v := x8) (lv' := [(6, .int x8), (5, .int z7), (7, .int z4), (0, .ref (ad 3)), (3, .int v3), (4, .int v4)]) hx hb dX6_letsEach_68 hl (k := 5) rfl (by rw [ex8]; exact congrArg (v6 + ·) (by decide)) (by decide) rfl (fun ls hl => ?_)
            refine lv_goto (tgt := 11) hx hb dX6_letsEach_71 (by decide) ?_
            exact ih σ v3 v4 z7 x8 (eb_up i0_ (eb_le33 h2) ex8 hn).1 (eb_up i0_ (eb_le33 h2) ex8 hn).2 hm hw (lv_sub hl [3, 4, 5, 1, 0] rfl)
          · have hm := (if_neg h6).symm.trans hm
            refine lv_iconst (v := 0) hx hb dX6_letsEach_56 (by decide) ?_
            subst hm
            exact eb_zret X hw rfl rfl rfl rfl dX6_letsEach_57
set_option maxHeartbeats 4000000 in
set_option maxRecDepth 100000 in
theorem c_X6_letsEach (l : Launch) (D : va_G) (cy : Nat → ClassId) (ad : Nat → Nat) (σ : eb_St) (a0 : Int32) (a1 : Int32) (a2 : Int32)  : eb_M l yX6_letsEach (Cond.code yX6_letsEach cX6_letsEach 8 (some .boolean) :: wsL_law) 1 24 D 33 cy cL ad σ [.ref (ad 3), .int a0, .int a1, .int a2] (some (.int (eb_b (m_X6_letsEach σ a0 a1 a2)))) σ := by
  refine eb_start (own := RX6) (by decide) rfl rfl (Nat.le_of_ble_eq_true rfl) ?_
  intro p e s m args below meth c A ls X hw hl
  have hl : lv_has ls 8 [(0, .ref (ad 3)), (1, .int a0), (2, .int a1), (3, .int a2)] := hl
  have hx := X.1.1
  have hb := X.1.2.1
  have hown := X.1.2.2.2.1
  have hts := X.1.2.2.2.2
  generalize hm : m_X6_letsEach σ a0 a1 a2 = mm
  have hm : (fun (x1 : Int32) => m_X6_letsEach_11  34 σ a2 x1 a0 0) (a0 + a1) = mm := hm
  refine lv_iload_n hx hb dX6_letsEach_0 rfl (lv_at hl 1 rfl) ?_
  refine lv_iload_n hx hb dX6_letsEach_1 rfl (lv_at hl 2 rfl) ?_
  refine lv_iadd hx hb dX6_letsEach_2 ?_
  refine lv_topi (fun x1 ex1 => ?_)
  have hm : m_X6_letsEach_11  34 σ a2 x1 a0 0 = mm := by rw [ex1]; exact hm
  refine lv_istore (lv' := [(4, .int x1), (0, .ref (ad 3)), (1, .int a0), (2, .int a1), (3, .int a2)]) hx hb dX6_letsEach_3 hl (by decide) rfl (fun ls hl => ?_)
  refine lv_iload_n hx hb dX6_letsEach_5 rfl (lv_at hl 2 rfl) ?_
  refine lv_istore (lv' := [(5, .int a0), (4, .int x1), (0, .ref (ad 3)), (1, .int a0), (2, .int a1), (3, .int a2)]) hx hb dX6_letsEach_6 hl (by decide) rfl (fun ls hl => ?_)
  refine lv_iconst (v := 0) hx hb dX6_letsEach_8 (by decide) ?_
  refine lv_istore (lv' := [(6, .int 0), (5, .int a0), (4, .int x1), (0, .ref (ad 3)), (1, .int a0), (2, .int a1), (3, .int a2)]) hx hb dX6_letsEach_9 hl (by decide) rfl (fun ls hl => ?_)
  exact k_X6_letsEach_11 X   34 σ a2 x1 a0 0 (by decide) (by decide) hm hw (lv_sub hl [3, 6, 2, 1, 0] rfl)
