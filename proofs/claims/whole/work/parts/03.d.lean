def m_X3_fault (σ : eb_St) (a0 : Int32) (a1 : Int64) : Int32 × eb_St := (a0, eb_pJ σ 9 4 a1)

def m_X3_illegal (σ : eb_St) (a0 : Int32) : Int32 × eb_St := (fun (z1 : Int32 × eb_St) => (z1.1, z1.2)) (m_X3_fault σ 2 (a0.toInt64 &&& 4294967295))

def m_X3_kind (a0 : Int32) : Int32 := (eb_iushr a0 12) &&& 7

def m_X3_first (σ : eb_St) (a0 : Nat) (a1 : Int32) : Int64 := (fun (z1 : Int64) => z1) (m_X7_get σ a0 (eb_iushr a1 15))

def m_X3_second (σ : eb_St) (a0 : Nat) (a1 : Int32) : Int64 := (fun (z1 : Int64) => z1) (m_X7_get σ a0 (eb_iushr a1 20))

def m_X3_finish (σ : eb_St) (a0 : Nat) (a1 : Int32) (a2 : Int64) : Int32 × eb_St := (fun (z1 : eb_St) => ((-1), z1)) (m_X7_set σ a0 (eb_iushr a1 7) a2)

def m_X3_branchOffset (a0 : Int32) : Int32 := ((((a0 >>> (31 &&& 31)) <<< (12 &&& 31)) ||| (((eb_iushr a0 7) &&& 1) <<< (11 &&& 31))) ||| (((eb_iushr a0 25) &&& 63) <<< (5 &&& 31))) ||| (((eb_iushr a0 8) &&& 15) <<< (1 &&& 31))

def m_X3_jumpOffset (a0 : Int32) : Int32 := ((((a0 >>> (31 &&& 31)) <<< (20 &&& 31)) ||| (a0 &&& (1044480 : Int32))) ||| (((eb_iushr a0 20) &&& (1 : Int32)) <<< (11 &&& 31))) ||| (((eb_iushr a0 21) &&& (1023 : Int32)) <<< (1 &&& 31))

def m_X3_changed (a0 : Int32) (a1 : Int64) (a2 : Int64) : Int64 := (if a0 = 1 then a2 else if a0 = 2 then a1 ||| a2 else a1 &&& (a2 ^^^ (-1)))

def m_X3_returnFromM (σ : eb_St)  : Int32 × eb_St := ((-1), eb_pI (eb_pI (eb_pJ σ 9 5 (σ.2 8 3)) 9 3 (σ.1 8 1)) 8 1 0)

def m_X3_load (σ : eb_St) (a0 : Nat) (a1 : Int32) : Int32 × eb_St := (fun (z1 : Int32) => (if z1 = 7 then (fun (z16 : Int32 × eb_St) => (z16.1, z16.2)) (m_X3_illegal σ a1) else (fun (z3 : Int64) => (fun (x4 : Int64) => (fun (x5 : Int32) => (if (x4 &&& ((x5 - 1).toInt64)) = 0 then (fun (z7 : Bool) => (if (eb_b z7) = 0 then (fun (z14 : Int32 × eb_St) => (z14.1, z14.2)) (m_X3_fault σ 5 x4) else (fun (z9 : Int64) => (fun (x10 : Int32) => (if (4 : Int32) ≤ z1 then (fun (z12 : Int32 × eb_St) => (z12.1, z12.2)) (m_X3_finish σ a0 a1 z9) else (fun (z13 : Int32 × eb_St) => (z13.1, z13.2)) (m_X3_finish σ a0 a1 (eb_lshr (eb_lshl z9 x10) x10)))) (64 - (8 * x5))) (m_X4_load σ x4.toInt32 x5))) (m_X6_lets σ (σ.1 9 3) x4 x5 1) else (fun (z15 : Int32 × eb_St) => (z15.1, z15.2)) (m_X3_fault σ 4 x4))) (1 <<< ((z1 &&& 3) &&& 31))) (z3 + ((a1 >>> (20 &&& 31)).toInt64))) (m_X3_first σ a0 a1))) (m_X3_kind a1)

def m_X3_store (σ : eb_St) (a0 : Nat) (a1 : Int32) : Int32 × eb_St := (fun (z1 : Int32) => (if z1 ≤ 3 then (fun (z3 : Int64) => (fun (x4 : Int64) => (fun (x5 : Int32) => (if (x4 &&& ((x5 - 1).toInt64)) = 0 then (fun (z7 : Bool) => (if (eb_b z7) = 0 then (fun (z11 : Int32 × eb_St) => (z11.1, z11.2)) (m_X3_fault σ 7 x4) else (fun (z9 : Int64) => (fun (z10 : eb_St) => ((-1), z10)) (m_X4_store σ x4.toInt32 x5 z9)) (m_X3_second σ a0 a1))) (m_X6_lets σ (σ.1 9 3) x4 x5 2) else (fun (z12 : Int32 × eb_St) => (z12.1, z12.2)) (m_X3_fault σ 6 x4))) (1 <<< (z1 &&& 31))) (z3 + ((((a1 >>> (25 &&& 31)) <<< (5 &&& 31)) ||| ((eb_iushr a1 7) &&& 31)).toInt64))) (m_X3_first σ a0 a1) else (fun (z13 : Int32 × eb_St) => (z13.1, z13.2)) (m_X3_illegal σ a1))) (m_X3_kind a1)

def m_X3_withImmediate_56  (σ : eb_St) (v1 : Nat) (v2 : Int32) (v3 : Int32) (v5 : Int32) : Int32 × eb_St := (fun (z10 : Int64) => (fun (z11 : Int64) => (fun (z12 : Int32 × eb_St) => (z12.1, z12.2)) (m_X3_finish σ v1 v2 z11)) (m_X0_basic v3 v5 z10 ((v2 >>> (20 &&& 31)).toInt64))) (m_X3_first σ v1 v2)
def m_X3_withImmediate_40  (σ : eb_St) (v1 : Nat) (v2 : Int32) (v3 : Int32) (v4 : Int32) (v5 : Int32) : Int32 × eb_St := (if v4 = 0 then m_X3_withImmediate_56  σ v1 v2 v3 v5 else (if v5 = 0 then (fun (z9 : Int32 × eb_St) => (z9.1, z9.2)) (m_X3_illegal σ v2) else m_X3_withImmediate_56  σ v1 v2 v3 v5))
def m_X3_withImmediate_28  (σ : eb_St) (v1 : Nat) (v2 : Int32) (v3 : Int32) (v4 : Int32) (s0 : Int32) : Int32 × eb_St := (if v3 = 1 then m_X3_withImmediate_40  σ v1 v2 v3 v4 s0 else (if v3 = 5 then m_X3_withImmediate_40  σ v1 v2 v3 v4 s0 else m_X3_withImmediate_56  σ v1 v2 v3 s0))
def m_X3_withImmediate_27  (σ : eb_St) (v1 : Nat) (v2 : Int32) (v3 : Int32) (v4 : Int32) : Int32 × eb_St := m_X3_withImmediate_28  σ v1 v2 v3 v4 0
def m_X3_withImmediate (σ : eb_St) (a0 : Nat) (a1 : Int32) : Int32 × eb_St := (fun (z1 : Int32) => (fun (x2 : Int32) => (if z1 = 5 then (if x2 = 16 then m_X3_withImmediate_28  σ a0 a1 z1 x2 1 else m_X3_withImmediate_27  σ a0 a1 z1 x2) else m_X3_withImmediate_27  σ a0 a1 z1 x2)) (eb_iushr a1 26)) (m_X3_kind a1)

def m_X3_withImmediateWord_72  (σ : eb_St) (v1 : Nat) (v2 : Int32) (v3 : Int32) (v5 : Int32) : Int32 × eb_St := (fun (z12 : Int64) => (fun (z13 : Int64) => (fun (z14 : Int32 × eb_St) => (z14.1, z14.2)) (m_X3_finish σ v1 v2 z13)) (m_X0_basicWord v3 v5 z12.toInt32 (v2 >>> (20 &&& 31)))) (m_X3_first σ v1 v2)
def m_X3_withImmediateWord_55  (σ : eb_St) (v1 : Nat) (v2 : Int32) (v3 : Int32) (v5 : Int32) (s0 : Int32) : Int32 × eb_St := (if v3 = 0 then m_X3_withImmediateWord_72  σ v1 v2 v3 v5 else (if s0 = 0 then (fun (z11 : Int32 × eb_St) => (z11.1, z11.2)) (m_X3_illegal σ v2) else m_X3_withImmediateWord_72  σ v1 v2 v3 v5))
def m_X3_withImmediateWord_50  (σ : eb_St) (v1 : Nat) (v2 : Int32) (v3 : Int32) (v5 : Int32) : Int32 × eb_St := m_X3_withImmediateWord_55  σ v1 v2 v3 v5 1
def m_X3_withImmediateWord_54  (σ : eb_St) (v1 : Nat) (v2 : Int32) (v3 : Int32) (v5 : Int32) : Int32 × eb_St := m_X3_withImmediateWord_55  σ v1 v2 v3 v5 0
def m_X3_withImmediateWord_40  (σ : eb_St) (v1 : Nat) (v2 : Int32) (v3 : Int32) (v4 : Int32) (v5 : Int32) : Int32 × eb_St := (if v4 = 0 then m_X3_withImmediateWord_50  σ v1 v2 v3 v5 else (if v5 = 0 then m_X3_withImmediateWord_54  σ v1 v2 v3 v5 else m_X3_withImmediateWord_50  σ v1 v2 v3 v5))
def m_X3_withImmediateWord_28  (σ : eb_St) (v1 : Nat) (v2 : Int32) (v3 : Int32) (v4 : Int32) (s0 : Int32) : Int32 × eb_St := (if v3 = 1 then m_X3_withImmediateWord_40  σ v1 v2 v3 v4 s0 else (if v3 = 5 then m_X3_withImmediateWord_40  σ v1 v2 v3 v4 s0 else m_X3_withImmediateWord_54  σ v1 v2 v3 s0))
def m_X3_withImmediateWord_27  (σ : eb_St) (v1 : Nat) (v2 : Int32) (v3 : Int32) (v4 : Int32) : Int32 × eb_St := m_X3_withImmediateWord_28  σ v1 v2 v3 v4 0
def m_X3_withImmediateWord (σ : eb_St) (a0 : Nat) (a1 : Int32) : Int32 × eb_St := (fun (z1 : Int32) => (fun (x2 : Int32) => (if z1 = 5 then (if x2 = 32 then m_X3_withImmediateWord_28  σ a0 a1 z1 x2 1 else m_X3_withImmediateWord_27  σ a0 a1 z1 x2) else m_X3_withImmediateWord_27  σ a0 a1 z1 x2)) (eb_iushr a1 25)) (m_X3_kind a1)

def m_X3_withRegister_100  (σ : eb_St) (v1 : Nat) (v2 : Int32) (v3 : Int32) (v5 : Int64) (v7 : Int64) (v9 : Int32) : Int32 × eb_St := (fun (z17 : Int64) => (fun (z18 : Int32 × eb_St) => (z18.1, z18.2)) (m_X3_finish σ v1 v2 z17)) (m_X0_basic v3 v9 v5 v7)
def m_X3_withRegister_82  (σ : eb_St) (v1 : Nat) (v2 : Int32) (v3 : Int32) (v4 : Int32) (v5 : Int64) (v7 : Int64) (s0 : Int32) : Int32 × eb_St := (if v4 = 0 then m_X3_withRegister_100  σ v1 v2 v3 v5 v7 s0 else (if s0 = 0 then (fun (z16 : Int32 × eb_St) => (z16.1, z16.2)) (m_X3_illegal σ v2) else m_X3_withRegister_100  σ v1 v2 v3 v5 v7 s0))
def m_X3_withRegister_77  (σ : eb_St) (v1 : Nat) (v2 : Int32) (v3 : Int32) (v4 : Int32) (v5 : Int64) (v7 : Int64) : Int32 × eb_St := m_X3_withRegister_82  σ v1 v2 v3 v4 v5 v7 1
def m_X3_withRegister_81  (σ : eb_St) (v1 : Nat) (v2 : Int32) (v3 : Int32) (v4 : Int32) (v5 : Int64) (v7 : Int64) : Int32 × eb_St := m_X3_withRegister_82  σ v1 v2 v3 v4 v5 v7 0
def m_X3_withRegister (σ : eb_St) (a0 : Nat) (a1 : Int32) : Int32 × eb_St := (fun (z1 : Int32) => (fun (x2 : Int32) => (fun (z3 : Int64) => (fun (z4 : Int64) => (if x2 = 1 then (if (4 : Int32) ≤ z1 then (fun (z10 : Int64) => (fun (z11 : Int32 × eb_St) => (z11.1, z11.2)) (m_X3_finish σ a0 a1 z10)) (m_X0_divided z1 z3 z4) else (fun (z12 : Int64) => (fun (z13 : Int32 × eb_St) => (z13.1, z13.2)) (m_X3_finish σ a0 a1 z12)) (m_X0_multiplied z1 z3 z4)) else (if x2 = 32 then (if z1 = 0 then m_X3_withRegister_77  σ a0 a1 z1 x2 z3 z4 else (if z1 = 5 then m_X3_withRegister_77  σ a0 a1 z1 x2 z3 z4 else m_X3_withRegister_81  σ a0 a1 z1 x2 z3 z4)) else m_X3_withRegister_81  σ a0 a1 z1 x2 z3 z4))) (m_X3_second σ a0 a1)) (m_X3_first σ a0 a1)) (eb_iushr a1 25)) (m_X3_kind a1)

def m_X3_withRegisterWord_42  (σ : eb_St) (v1 : Nat) (v2 : Int32) (v3 : Int32) (v5 : Int32) (v6 : Int32) : Int32 × eb_St := (fun (z13 : Int64) => (fun (z14 : Int32 × eb_St) => (z14.1, z14.2)) (m_X3_finish σ v1 v2 z13)) (m_X0_multipliedWord v3 v5 v6)
def m_X3_withRegisterWord_121  (σ : eb_St) (v1 : Nat) (v2 : Int32) (v3 : Int32) (v5 : Int32) (v6 : Int32) (v7 : Int32) : Int32 × eb_St := (fun (z22 : Int64) => (fun (z23 : Int32 × eb_St) => (z23.1, z23.2)) (m_X3_finish σ v1 v2 z22)) (m_X0_basicWord v3 v7 v5 v6)
def m_X3_withRegisterWord_103  (σ : eb_St) (v1 : Nat) (v2 : Int32) (v3 : Int32) (v5 : Int32) (v6 : Int32) (v7 : Int32) (s0 : Int32) : Int32 × eb_St := (if s0 = 0 then (if v7 = 0 then (fun (z21 : Int32 × eb_St) => (z21.1, z21.2)) (m_X3_illegal σ v2) else m_X3_withRegisterWord_121  σ v1 v2 v3 v5 v6 v7) else m_X3_withRegisterWord_121  σ v1 v2 v3 v5 v6 v7)
def m_X3_withRegisterWord_98  (σ : eb_St) (v1 : Nat) (v2 : Int32) (v3 : Int32) (v5 : Int32) (v6 : Int32) (v7 : Int32) : Int32 × eb_St := m_X3_withRegisterWord_103  σ v1 v2 v3 v5 v6 v7 1
def m_X3_withRegisterWord_102  (σ : eb_St) (v1 : Nat) (v2 : Int32) (v3 : Int32) (v5 : Int32) (v6 : Int32) (v7 : Int32) : Int32 × eb_St := m_X3_withRegisterWord_103  σ v1 v2 v3 v5 v6 v7 0
def m_X3_withRegisterWord_77  (σ : eb_St) (v1 : Nat) (v2 : Int32) (v3 : Int32) (v4 : Int32) (v5 : Int32) (v6 : Int32) (s0 : Int32) : Int32 × eb_St := (if v4 = 0 then (if v3 = 0 then m_X3_withRegisterWord_98  σ v1 v2 v3 v5 v6 s0 else (if v3 = 1 then m_X3_withRegisterWord_98  σ v1 v2 v3 v5 v6 s0 else (if v3 = 5 then m_X3_withRegisterWord_98  σ v1 v2 v3 v5 v6 s0 else m_X3_withRegisterWord_102  σ v1 v2 v3 v5 v6 s0))) else m_X3_withRegisterWord_102  σ v1 v2 v3 v5 v6 s0)
def m_X3_withRegisterWord_72  (σ : eb_St) (v1 : Nat) (v2 : Int32) (v3 : Int32) (v4 : Int32) (v5 : Int32) (v6 : Int32) : Int32 × eb_St := m_X3_withRegisterWord_77  σ v1 v2 v3 v4 v5 v6 1
def m_X3_withRegisterWord_76  (σ : eb_St) (v1 : Nat) (v2 : Int32) (v3 : Int32) (v4 : Int32) (v5 : Int32) (v6 : Int32) : Int32 × eb_St := m_X3_withRegisterWord_77  σ v1 v2 v3 v4 v5 v6 0
def m_X3_withRegisterWord_56  (σ : eb_St) (v1 : Nat) (v2 : Int32) (v3 : Int32) (v4 : Int32) (v5 : Int32) (v6 : Int32) : Int32 × eb_St := (if v4 = 32 then (if v3 = 0 then m_X3_withRegisterWord_72  σ v1 v2 v3 v4 v5 v6 else (if v3 = 5 then m_X3_withRegisterWord_72  σ v1 v2 v3 v4 v5 v6 else m_X3_withRegisterWord_76  σ v1 v2 v3 v4 v5 v6)) else m_X3_withRegisterWord_76  σ v1 v2 v3 v4 v5 v6)
def m_X3_withRegisterWord (σ : eb_St) (a0 : Nat) (a1 : Int32) : Int32 × eb_St := (fun (z1 : Int32) => (fun (x2 : Int32) => (fun (z3 : Int64) => (fun (x4 : Int32) => (fun (z5 : Int64) => (fun (x6 : Int32) => (if x2 = 1 then (if z1 = 0 then m_X3_withRegisterWord_42  σ a0 a1 z1 x4 x6 else (if z1 < 4 then m_X3_withRegisterWord_56  σ a0 a1 z1 x2 x4 x6 else m_X3_withRegisterWord_42  σ a0 a1 z1 x4 x6)) else m_X3_withRegisterWord_56  σ a0 a1 z1 x2 x4 x6)) (z5.toInt32)) (m_X3_second σ a0 a1)) (z3.toInt32)) (m_X3_first σ a0 a1)) (eb_iushr a1 25)) (m_X3_kind a1)

def m_X3_branch (σ : eb_St) (a0 : Nat) (a1 : Int32) : Int32 × eb_St := (fun (z1 : Int32) => (if z1 = 2 then (fun (z3 : Int32 × eb_St) => (z3.1, z3.2)) (m_X3_illegal σ a1) else (if z1 = 3 then (fun (z13 : Int32 × eb_St) => (z13.1, z13.2)) (m_X3_illegal σ a1) else (fun (z5 : Int64) => (fun (z6 : Int64) => (fun (z7 : Bool) => (if (eb_b z7) = 0 then ((-1), σ) else (fun (z9 : Int32) => (fun (x10 : Int64) => (if (x10 &&& 3) = 0 then ((-1), eb_pJ σ 9 5 x10) else (fun (z12 : Int32 × eb_St) => (z12.1, z12.2)) (m_X3_fault σ 0 x10))) ((σ.2 (19 + a0) 1) + z9.toInt64)) (m_X3_branchOffset a1))) (m_X0_holds z1 z5 z6)) (m_X3_second σ a0 a1)) (m_X3_first σ a0 a1)))) (m_X3_kind a1)

def m_X3_jump (σ : eb_St) (a0 : Nat) (a1 : Int32) (a2 : Int64) : Int32 × eb_St := (if (a2 &&& 3) = 0 then (fun (z2 : Int32 × eb_St) => (z2.1, z2.2)) (m_X3_finish (eb_pJ σ 9 5 a2) a0 a1 (((eb_pJ σ 9 5 a2).2 (19 + a0) 1) + 4)) else (fun (z3 : Int32 × eb_St) => (z3.1, z3.2)) (m_X3_fault σ 0 a2))

def m_X3_jumpByRegister (σ : eb_St) (a0 : Nat) (a1 : Int32) : Int32 × eb_St := (fun (z1 : Int32) => (if z1 = 0 then (fun (z3 : Int64) => (fun (z4 : Int32 × eb_St) => (z4.1, z4.2)) (m_X3_jump σ a0 a1 ((z3 + ((a1 >>> (20 &&& 31)).toInt64)) &&& (-2)))) (m_X3_first σ a0 a1) else (fun (z5 : Int32 × eb_St) => (z5.1, z5.2)) (m_X3_illegal σ a1))) (m_X3_kind a1)

def m_X3_environment (σ : eb_St) (a0 : Nat) (a1 : Int32) : Int32 × eb_St := (if a1 = 115 then (fun (z2 : Int32 × eb_St) => (z2.1, z2.2)) (m_X3_fault σ 11 0) else if a1 = 1048691 then (fun (z4 : Int32 × eb_St) => (z4.1, z4.2)) (m_X3_fault σ 3 (σ.2 (19 + a0) 1)) else if a1 = 273678451 then ((-1), σ) else if a1 = 807403635 then (if (σ.1 9 3) = 3 then (fun (z9 : Int32 × eb_St) => (z9.1, z9.2)) (m_X3_returnFromM σ) else (fun (z8 : Int32 × eb_St) => (z8.1, z8.2)) (m_X3_illegal σ a1)) else (fun (z10 : Int32 × eb_St) => (z10.1, z10.2)) (m_X3_illegal σ a1))

def m_X3_access_124  (σ : eb_St) (v1 : Nat) (v2 : Int32) (v3 : Int32) (v4 : Int32) (v8 : Int64) (s0 : Int64) : Int32 × eb_St := (fun (z20 : Int64) => (fun (z21 : eb_St) => (fun (z22 : Int32 × eb_St) => (z22.1, z22.2)) (m_X3_finish z21 v1 v2 v8)) (m_X1_write σ v4 z20)) (m_X3_changed (v3 &&& 3) v8 s0)
def m_X3_access_65  (σ : eb_St) (v1 : Nat) (v2 : Int32) (v3 : Int32) (v4 : Int32) (v5 : Int32) (v6 : Int32) (s0 : Int32) : Int32 × eb_St := (if (σ.1 9 3) = 3 then (if v3 = 4 then (fun (z12 : Int32 × eb_St) => (z12.1, z12.2)) (m_X3_illegal σ v2) else (if s0 = 0 then (fun (z19 : Int32 × eb_St) => (z19.1, z19.2)) (m_X3_illegal σ v2) else (fun (z14 : Int64) => (if v6 = 0 then (fun (z16 : Int32 × eb_St) => (z16.1, z16.2)) (m_X3_finish σ v1 v2 z14) else (if v3 ≤ 4 then (fun (z18 : Int64) => m_X3_access_124  σ v1 v2 v3 v4 z14 z18) (m_X7_get σ v1 v5) else m_X3_access_124  σ v1 v2 v3 v4 z14 v5.toInt64))) (m_X1_read σ v4))) else (fun (z10 : Int32 × eb_St) => (z10.1, z10.2)) (m_X3_illegal σ v2))
def m_X3_access_37  (σ : eb_St) (v1 : Nat) (v2 : Int32) (v3 : Int32) (v4 : Int32) (v5 : Int32) (s0 : Int32) : Int32 × eb_St := (if s0 = 0 then (fun (z7 : Bool) => m_X3_access_65  σ v1 v2 v3 v4 v5 s0 (eb_b z7)) (m_X1_isThere v4) else (fun (z8 : Bool) => m_X3_access_65  σ v1 v2 v3 v4 v5 s0 (eb_b z8)) (m_X1_isWritable v4))
def m_X3_access_32  (σ : eb_St) (v1 : Nat) (v2 : Int32) (v3 : Int32) (v4 : Int32) (v5 : Int32) : Int32 × eb_St := m_X3_access_37  σ v1 v2 v3 v4 v5 1
def m_X3_access (σ : eb_St) (a0 : Nat) (a1 : Int32) : Int32 × eb_St := (fun (z1 : Int32) => (fun (x2 : Int32) => (fun (x3 : Int32) => (if (z1 &&& 3) = 1 then m_X3_access_32  σ a0 a1 z1 x2 x3 else (if x3 = 0 then m_X3_access_37  σ a0 a1 z1 x2 x3 0 else m_X3_access_32  σ a0 a1 z1 x2 x3))) ((eb_iushr a1 15) &&& 31)) (eb_iushr a1 20)) (m_X3_kind a1)

def m_X3_perform (σ : eb_St) (a0 : Nat) (a1 : Int32) : Int32 × eb_St := (if (a1 &&& 127) = 3 then (fun (z2 : Int32 × eb_St) => (z2.1, z2.2)) (m_X3_load σ a0 a1) else if (a1 &&& 127) = 15 then (fun (z4 : Int32) => (if (1 : Int32) < z4 then (fun (z6 : Int32 × eb_St) => (z6.1, z6.2)) (m_X3_illegal σ a1) else ((-1), σ))) (m_X3_kind a1) else if (a1 &&& 127) = 19 then (fun (z8 : Int32 × eb_St) => (z8.1, z8.2)) (m_X3_withImmediate σ a0 a1) else if (a1 &&& 127) = 23 then (fun (z10 : Int32 × eb_St) => (z10.1, z10.2)) (m_X3_finish σ a0 a1 ((σ.2 (19 + a0) 1) + ((a1 &&& (-4096)).toInt64))) else if (a1 &&& 127) = 27 then (fun (z12 : Int32 × eb_St) => (z12.1, z12.2)) (m_X3_withImmediateWord σ a0 a1) else if (a1 &&& 127) = 35 then (fun (z14 : Int32 × eb_St) => (z14.1, z14.2)) (m_X3_store σ a0 a1) else if (a1 &&& 127) = 51 then (fun (z16 : Int32 × eb_St) => (z16.1, z16.2)) (m_X3_withRegister σ a0 a1) else if (a1 &&& 127) = 55 then (fun (z18 : Int32 × eb_St) => (z18.1, z18.2)) (m_X3_finish σ a0 a1 ((a1 &&& (-4096)).toInt64)) else if (a1 &&& 127) = 59 then (fun (z20 : Int32 × eb_St) => (z20.1, z20.2)) (m_X3_withRegisterWord σ a0 a1) else if (a1 &&& 127) = 99 then (fun (z22 : Int32 × eb_St) => (z22.1, z22.2)) (m_X3_branch σ a0 a1) else if (a1 &&& 127) = 103 then (fun (z24 : Int32 × eb_St) => (z24.1, z24.2)) (m_X3_jumpByRegister σ a0 a1) else if (a1 &&& 127) = 111 then (fun (z26 : Int32) => (fun (z27 : Int32 × eb_St) => (z27.1, z27.2)) (m_X3_jump σ a0 a1 ((σ.2 (19 + a0) 1) + z26.toInt64))) (m_X3_jumpOffset a1) else if (a1 &&& 127) = 115 then (fun (z29 : Int32) => (if z29 = 0 then (fun (z32 : Int32 × eb_St) => (z32.1, z32.2)) (m_X3_environment σ a0 a1) else (fun (z31 : Int32 × eb_St) => (z31.1, z31.2)) (m_X3_access σ a0 a1))) (m_X3_kind a1) else (fun (z33 : Int32 × eb_St) => (z33.1, z33.2)) (m_X3_illegal σ a1))

def m_X3_execute (σ : eb_St) (a0 : Nat) : Int32 × eb_St := (if ((σ.2 (19 + a0) 1) &&& 3) = 0 then (fun (z2 : Bool) => (if (eb_b z2) = 0 then (fun (z8 : Int32 × eb_St) => (z8.1, z8.2)) (m_X3_fault σ 1 (σ.2 (19 + a0) 1)) else (fun (z4 : Int64) => (fun (z5 : Int32 × eb_St) => (fun (x6 : Int32) => (if x6 = (-1) then (x6, eb_pJ z5.2 (19 + a0) 1 (z5.2.2 9 5)) else (x6, z5.2))) (z5.1)) (m_X3_perform (eb_pJ σ 9 5 ((σ.2 (19 + a0) 1) + 4)) a0 z4.toInt32)) (m_X4_load (eb_pJ σ 9 5 ((σ.2 (19 + a0) 1) + 4)) (((eb_pJ σ 9 5 ((σ.2 (19 + a0) 1) + 4)).2 (19 + a0) 1).toInt32) 4))) (m_X6_lets σ (σ.1 9 3) (σ.2 (19 + a0) 1) 4 4) else (fun (z9 : Int32 × eb_St) => (z9.1, z9.2)) (m_X3_fault σ 0 (σ.2 (19 + a0) 1)))
set_option maxHeartbeats 4000000 in
set_option maxRecDepth 100000 in
theorem c_X3_fault (l : Launch) (D : va_G) (cy : Nat → ClassId) (ad : Nat → Nat) (σ : eb_St) (a0 : Int32) (a1 : Int64)  : eb_M l yX3_fault (Cond.code yX3_fault cX3_fault 4 (some .int) :: wsL_law) 0 0 D 33 cy cL ad σ [.ref (ad 9), .int a0, .long a1] (some (.int (m_X3_fault σ a0 a1).1)) ((m_X3_fault σ a0 a1).2) := by
  refine eb_start (own := RX3) (by decide) rfl rfl (Nat.le_of_ble_eq_true rfl) ?_
  intro p e s m args below meth c A ls X hw hl
  have hl : lv_has ls 4 [(0, .ref (ad 9)), (1, .int a0), (2, .long a1)] := hl
  have hx := X.1.1
  have hb := X.1.2.1
  have hown := X.1.2.2.2.1
  have hts := X.1.2.2.2.2
  generalize hm : m_X3_fault σ a0 a1 = mm
  have hm : (a0, eb_pJ σ 9 4 a1) = mm := hm
  refine lv_aload_n hx hb dX3_fault_0 rfl (lv_at hl 0 rfl) ?_
  refine lv_lload_n hx hb dX3_fault_1 rfl (lv_at hl 2 rfl) ?_
  refine eb_putJ (T := TX3) X hw 9 4 (by decide) ⟨rfl, rfl, rfl⟩ (by decide) rfl (fun _ h => List.mem_cons_of_mem _ (inlX3 _ h)) (List.mem_cons_of_mem _ wi_14_23) tyX3 tyX3_ok nmX3 rfl rfl rfl dX3_fault_2 (fun H locs hw => ?_)
  refine lv_iload_n hx hb dX3_fault_5 rfl (lv_at hl 1 rfl) ?_
  subst hm
  exact eb_iret X hw rfl rfl rfl dX3_fault_6

set_option maxHeartbeats 4000000 in
set_option maxRecDepth 100000 in
theorem c_X3_illegal (l : Launch) (D : va_G) (cy : Nat → ClassId) (ad : Nat → Nat) (σ : eb_St) (a0 : Int32)  : eb_M l yX3_illegal (Cond.code yX3_illegal cX3_illegal 2 (some .int) :: wsL_law) 1 23 D 33 cy cL ad σ [.ref (ad 9), .int a0] (some (.int (m_X3_illegal σ a0).1)) ((m_X3_illegal σ a0).2) := by
  refine eb_start (own := RX3) (by decide) rfl rfl (Nat.le_of_ble_eq_true rfl) ?_
  intro p e s m args below meth c A ls X hw hl
  have hl : lv_has ls 2 [(0, .ref (ad 9)), (1, .int a0)] := hl
  have hx := X.1.1
  have hb := X.1.2.1
  have hown := X.1.2.2.2.1
  have hts := X.1.2.2.2.2
  generalize hm : m_X3_illegal σ a0 = mm
  have hm : (fun (z1 : Int32 × eb_St) => (z1.1, z1.2)) (m_X3_fault σ 2 (a0.toInt64 &&& 4294967295)) = mm := hm
  refine lv_aload_n hx hb dX3_illegal_0 rfl (lv_at hl 0 rfl) ?_
  refine lv_iconst (v := 2) hx hb dX3_illegal_1 (by decide) ?_
  refine lv_iload_n hx hb dX3_illegal_2 rfl (lv_at hl 1 rfl) ?_
  refine lv_i2l (v := a0.toInt64) hx hb dX3_illegal_3 rfl ?_
  refine lv_ldc2 hx hb hown (hts _ (List.mem_cons_of_mem _ wi_16_0)) dX3_illegal_4 ?_
  refine lv_land hx hb dX3_illegal_7 ?_
  obtain ⟨z1, qz1⟩ : ∃ t : Int32 × eb_St, t = m_X3_fault σ 2 (a0.toInt64 &&& 4294967295) := ⟨_, rfl⟩
  have hm : (z1.1, z1.2) = mm := by rw [qz1]; exact hm
  have hc : eb_M l yX3_fault (Cond.code yX3_fault cX3_fault 4 (some .int) :: wsL_law) 0 0 D 33 cy cL ad σ [.ref (ad 9), .int 2, .long (a0.toInt64 &&& 4294967295)] (some (.int z1.1)) z1.2 := by rw [qz1]; exact c_X3_fault l D cy ad σ 2 (a0.toInt64 &&& 4294967295)
  refine eb_callV (n := 2) (as := [.int 2, .long (a0.toInt64 &&& 4294967295)]) (rest := []) X hw hl.1 9 hc (by decide) ⟨rfl, rfl, rfl⟩ (eb_goodV wi_14_19 wi_14_20 wi_14_21 wi_2_11 wi_14_22) rfl (by decide +kernel) ⟨by decide, by decide⟩ rfl rfl (Nat.le_of_ble_eq_true rfl) dX3_illegal_8 ⟨by decide, by decide⟩ (st' := [.int z1.1]) rfl (fun H locs hw => ?_)
  subst hm
  exact eb_iret X hw rfl rfl rfl dX3_illegal_11

set_option maxHeartbeats 4000000 in
set_option maxRecDepth 100000 in
theorem c_X3_kind (l : Launch) (D : va_G) (cy : Nat → ClassId) (ad : Nat → Nat) (σ : eb_St) (a0 : Int32)  : eb_M l yX3_kind (Cond.code yX3_kind cX3_kind 1 (some .int) :: wsL_law) 0 0 D 33 cy cL ad σ [.int a0] (some (.int (m_X3_kind a0))) σ := by
  refine eb_start (own := RX3) (by decide) rfl rfl (Nat.le_of_ble_eq_true rfl) ?_
  intro p e s m args below meth c A ls X hw hl
  have hl : lv_has ls 1 [(0, .int a0)] := hl
  have hx := X.1.1
  have hb := X.1.2.1
  have hown := X.1.2.2.2.1
  have hts := X.1.2.2.2.2
  generalize hm : m_X3_kind a0 = mm
  have hm : (eb_iushr a0 12) &&& 7 = mm := hm
  refine lv_iload_n hx hb dX3_kind_0 rfl (lv_at hl 0 rfl) ?_
  refine lv_bipush (v := 12) hx hb dX3_kind_1 (by decide) ?_
  refine lv_iushr (v := eb_iushr a0 12) hx hb dX3_kind_3 rfl ?_
  refine lv_bipush (v := 7) hx hb dX3_kind_4 (by decide) ?_
  refine lv_iand hx hb dX3_kind_6 ?_
  subst hm
  exact eb_iret X hw rfl rfl rfl dX3_kind_7

set_option maxHeartbeats 4000000 in
set_option maxRecDepth 100000 in
theorem c_X3_first (l : Launch) (D : va_G) (cy : Nat → ClassId) (ad : Nat → Nat) (σ : eb_St) (a0 : Nat) (a1 : Int32) (ba0 : a0 < 7) : eb_M l yX3_first (Cond.code yX3_first cX3_first 2 (some .long) :: wsL_law) 1 21 D 33 cy cL ad σ [.ref (ad (19 + a0)), .int a1] (some (.long (m_X3_first σ a0 a1))) σ := by
  refine eb_start (own := RX3) (by decide) rfl rfl (Nat.le_of_ble_eq_true rfl) ?_
  intro p e s m args below meth c A ls X hw hl
  have hl : lv_has ls 2 [(0, .ref (ad (19 + a0))), (1, .int a1)] := hl
  have hx := X.1.1
  have hb := X.1.2.1
  have hown := X.1.2.2.2.1
  have hts := X.1.2.2.2.2
  generalize hm : m_X3_first σ a0 a1 = mm
  have hm : (fun (z1 : Int64) => z1) (m_X7_get σ a0 (eb_iushr a1 15)) = mm := hm
  refine lv_aload_n hx hb dX3_first_0 rfl (lv_at hl 0 rfl) ?_
  refine lv_iload_n hx hb dX3_first_1 rfl (lv_at hl 1 rfl) ?_
  refine lv_bipush (v := 15) hx hb dX3_first_2 (by decide) ?_
  refine lv_iushr (v := eb_iushr a1 15) hx hb dX3_first_4 rfl ?_
  obtain ⟨z1, qz1⟩ : ∃ t : Int64, t = m_X7_get σ a0 (eb_iushr a1 15) := ⟨_, rfl⟩
  have hm : z1 = mm := by rw [qz1]; exact hm
  have hc : eb_M l yX7_get (Cond.code yX7_get cX7_get 2 (some .long) :: wsL_law) 0 0 D 33 cy cL ad σ [.ref (ad (19 + a0)), .int (eb_iushr a1 15)] (some (.long z1)) σ := by rw [qz1]; exact c_X7_get l D cy ad σ a0 (eb_iushr a1 15) (by omega)
  refine eb_callV (n := 1) (as := [.int (eb_iushr a1 15)]) (rest := []) X hw hl.1 (19 + a0) hc (by omega) (cR_i (by omega)) (eb_goodV wi_16_4 wi_16_5 wi_16_6 wi_2_7 wi_16_7) rfl (by decide +kernel) ⟨by decide, by decide⟩ rfl rfl (Nat.le_of_ble_eq_true rfl) dX3_first_5 ⟨by decide, by decide⟩ (st' := [.long z1]) rfl (fun H locs hw => ?_)
  subst hm
  exact eb_lret X hw rfl rfl rfl dX3_first_8

set_option maxHeartbeats 4000000 in
set_option maxRecDepth 100000 in
theorem c_X3_second (l : Launch) (D : va_G) (cy : Nat → ClassId) (ad : Nat → Nat) (σ : eb_St) (a0 : Nat) (a1 : Int32) (ba0 : a0 < 7) : eb_M l yX3_second (Cond.code yX3_second cX3_second 2 (some .long) :: wsL_law) 1 21 D 33 cy cL ad σ [.ref (ad (19 + a0)), .int a1] (some (.long (m_X3_second σ a0 a1))) σ := by
  refine eb_start (own := RX3) (by decide) rfl rfl (Nat.le_of_ble_eq_true rfl) ?_
  intro p e s m args below meth c A ls X hw hl
  have hl : lv_has ls 2 [(0, .ref (ad (19 + a0))), (1, .int a1)] := hl
  have hx := X.1.1
  have hb := X.1.2.1
  have hown := X.1.2.2.2.1
  have hts := X.1.2.2.2.2
  generalize hm : m_X3_second σ a0 a1 = mm
  have hm : (fun (z1 : Int64) => z1) (m_X7_get σ a0 (eb_iushr a1 20)) = mm := hm
  refine lv_aload_n hx hb dX3_second_0 rfl (lv_at hl 0 rfl) ?_
  refine lv_iload_n hx hb dX3_second_1 rfl (lv_at hl 1 rfl) ?_
  refine lv_bipush (v := 20) hx hb dX3_second_2 (by decide) ?_
  refine lv_iushr (v := eb_iushr a1 20) hx hb dX3_second_4 rfl ?_
  obtain ⟨z1, qz1⟩ : ∃ t : Int64, t = m_X7_get σ a0 (eb_iushr a1 20) := ⟨_, rfl⟩
  have hm : z1 = mm := by rw [qz1]; exact hm
  have hc : eb_M l yX7_get (Cond.code yX7_get cX7_get 2 (some .long) :: wsL_law) 0 0 D 33 cy cL ad σ [.ref (ad (19 + a0)), .int (eb_iushr a1 20)] (some (.long z1)) σ := by rw [qz1]; exact c_X7_get l D cy ad σ a0 (eb_iushr a1 20) (by omega)
  refine eb_callV (n := 1) (as := [.int (eb_iushr a1 20)]) (rest := []) X hw hl.1 (19 + a0) hc (by omega) (cR_i (by omega)) (eb_goodV wi_16_4 wi_16_5 wi_16_6 wi_2_7 wi_16_7) rfl (by decide +kernel) ⟨by decide, by decide⟩ rfl rfl (Nat.le_of_ble_eq_true rfl) dX3_second_5 ⟨by decide, by decide⟩ (st' := [.long z1]) rfl (fun H locs hw => ?_)
  subst hm
  exact eb_lret X hw rfl rfl rfl dX3_second_8

set_option maxHeartbeats 4000000 in
set_option maxRecDepth 100000 in
theorem c_X3_finish (l : Launch) (D : va_G) (cy : Nat → ClassId) (ad : Nat → Nat) (σ : eb_St) (a0 : Nat) (a1 : Int32) (a2 : Int64) (ba0 : a0 < 7) : eb_M l yX3_finish (Cond.code yX3_finish cX3_finish 4 (some .int) :: wsL_law) 1 23 D 33 cy cL ad σ [.ref (ad (19 + a0)), .int a1, .long a2] (some (.int (m_X3_finish σ a0 a1 a2).1)) ((m_X3_finish σ a0 a1 a2).2) := by
  refine eb_start (own := RX3) (by decide) rfl rfl (Nat.le_of_ble_eq_true rfl) ?_
  intro p e s m args below meth c A ls X hw hl
  have hl : lv_has ls 4 [(0, .ref (ad (19 + a0))), (1, .int a1), (2, .long a2)] := hl
  have hx := X.1.1
  have hb := X.1.2.1
  have hown := X.1.2.2.2.1
  have hts := X.1.2.2.2.2
  generalize hm : m_X3_finish σ a0 a1 a2 = mm
  have hm : (fun (z1 : eb_St) => ((-1), z1)) (m_X7_set σ a0 (eb_iushr a1 7) a2) = mm := hm
  refine lv_aload_n hx hb dX3_finish_0 rfl (lv_at hl 0 rfl) ?_
  refine lv_iload_n hx hb dX3_finish_1 rfl (lv_at hl 1 rfl) ?_
  refine lv_bipush (v := 7) hx hb dX3_finish_2 (by decide) ?_
  refine lv_iushr (v := eb_iushr a1 7) hx hb dX3_finish_4 rfl ?_
  refine lv_lload_n hx hb dX3_finish_5 rfl (lv_at hl 2 rfl) ?_
  obtain ⟨z1, qz1⟩ : ∃ t : eb_St, t = m_X7_set σ a0 (eb_iushr a1 7) a2 := ⟨_, rfl⟩
  have hm : ((-1), z1) = mm := by rw [qz1]; exact hm
  have hc : eb_M l yX7_set (Cond.code yX7_set cX7_set 4 none :: wsL_law) 0 0 D 33 cy cL ad σ [.ref (ad (19 + a0)), .int (eb_iushr a1 7), .long a2] (none) z1 := by rw [qz1]; exact c_X7_set l D cy ad σ a0 (eb_iushr a1 7) a2 (by omega)
  refine eb_callV (n := 2) (as := [.int (eb_iushr a1 7), .long a2]) (rest := []) X hw hl.1 (19 + a0) hc (by omega) (cR_i (by omega)) (eb_goodV wi_16_11 wi_13_6 wi_13_7 wi_2_7 wi_13_8) rfl (by decide +kernel) ⟨by decide, by decide⟩ rfl rfl (Nat.le_of_ble_eq_true rfl) dX3_finish_6 ⟨by decide, by decide⟩ (st' := []) rfl (fun H locs hw => ?_)
  refine lv_iconst (v := (-1)) hx hb dX3_finish_9 (by decide) ?_
  subst hm
  exact eb_iret X hw rfl rfl rfl dX3_finish_10

set_option maxHeartbeats 4000000 in
set_option maxRecDepth 100000 in
theorem c_X3_branchOffset (l : Launch) (D : va_G) (cy : Nat → ClassId) (ad : Nat → Nat) (σ : eb_St) (a0 : Int32)  : eb_M l yX3_branchOffset (Cond.code yX3_branchOffset cX3_branchOffset 1 (some .int) :: wsL_law) 0 0 D 33 cy cL ad σ [.int a0] (some (.int (m_X3_branchOffset a0))) σ := by
  refine eb_start (own := RX3) (by decide) rfl rfl (Nat.le_of_ble_eq_true rfl) ?_
  intro p e s m args below meth c A ls X hw hl
  have hl : lv_has ls 1 [(0, .int a0)] := hl
  have hx := X.1.1
  have hb := X.1.2.1
  have hown := X.1.2.2.2.1
  have hts := X.1.2.2.2.2
  generalize hm : m_X3_branchOffset a0 = mm
  have hm : ((((a0 >>> (31 &&& 31)) <<< (12 &&& 31)) ||| (((eb_iushr a0 7) &&& 1) <<< (11 &&& 31))) ||| (((eb_iushr a0 25) &&& 63) <<< (5 &&& 31))) ||| (((eb_iushr a0 8) &&& 15) <<< (1 &&& 31)) = mm := hm
  refine lv_iload_n hx hb dX3_branchOffset_0 rfl (lv_at hl 0 rfl) ?_
  refine lv_bipush (v := 31) hx hb dX3_branchOffset_1 (by decide) ?_
  refine lv_ishr hx hb dX3_branchOffset_3 ?_
  refine lv_bipush (v := 12) hx hb dX3_branchOffset_4 (by decide) ?_
  refine lv_ishl hx hb dX3_branchOffset_6 ?_
  refine lv_iload_n hx hb dX3_branchOffset_7 rfl (lv_at hl 0 rfl) ?_
  refine lv_bipush (v := 7) hx hb dX3_branchOffset_8 (by decide) ?_
  refine lv_iushr (v := eb_iushr a0 7) hx hb dX3_branchOffset_10 rfl ?_
  refine lv_iconst (v := 1) hx hb dX3_branchOffset_11 (by decide) ?_
  refine lv_iand hx hb dX3_branchOffset_12 ?_
  refine lv_bipush (v := 11) hx hb dX3_branchOffset_13 (by decide) ?_
  refine lv_ishl hx hb dX3_branchOffset_15 ?_
  refine lv_ior hx hb dX3_branchOffset_16 ?_
  refine lv_iload_n hx hb dX3_branchOffset_17 rfl (lv_at hl 0 rfl) ?_
  refine lv_bipush (v := 25) hx hb dX3_branchOffset_18 (by decide) ?_
  refine lv_iushr (v := eb_iushr a0 25) hx hb dX3_branchOffset_20 rfl ?_
  refine lv_bipush (v := 63) hx hb dX3_branchOffset_21 (by decide) ?_
  refine lv_iand hx hb dX3_branchOffset_23 ?_
  refine lv_iconst (v := 5) hx hb dX3_branchOffset_24 (by decide) ?_
  refine lv_ishl hx hb dX3_branchOffset_25 ?_
  refine lv_ior hx hb dX3_branchOffset_26 ?_
  refine lv_iload_n hx hb dX3_branchOffset_27 rfl (lv_at hl 0 rfl) ?_
  refine lv_bipush (v := 8) hx hb dX3_branchOffset_28 (by decide) ?_
  refine lv_iushr (v := eb_iushr a0 8) hx hb dX3_branchOffset_30 rfl ?_
  refine lv_bipush (v := 15) hx hb dX3_branchOffset_31 (by decide) ?_
  refine lv_iand hx hb dX3_branchOffset_33 ?_
  refine lv_iconst (v := 1) hx hb dX3_branchOffset_34 (by decide) ?_
  refine lv_ishl hx hb dX3_branchOffset_35 ?_
  refine lv_ior hx hb dX3_branchOffset_36 ?_
  subst hm
  exact eb_iret X hw rfl rfl rfl dX3_branchOffset_37

set_option maxHeartbeats 4000000 in
set_option maxRecDepth 100000 in
theorem c_X3_jumpOffset (l : Launch) (D : va_G) (cy : Nat → ClassId) (ad : Nat → Nat) (σ : eb_St) (a0 : Int32)  : eb_M l yX3_jumpOffset (Cond.code yX3_jumpOffset cX3_jumpOffset 1 (some .int) :: wsL_law) 0 0 D 33 cy cL ad σ [.int a0] (some (.int (m_X3_jumpOffset a0))) σ := by
  refine eb_start (own := RX3) (by decide) rfl rfl (Nat.le_of_ble_eq_true rfl) ?_
  intro p e s m args below meth c A ls X hw hl
  have hl : lv_has ls 1 [(0, .int a0)] := hl
  have hx := X.1.1
  have hb := X.1.2.1
  have hown := X.1.2.2.2.1
  have hts := X.1.2.2.2.2
  generalize hm : m_X3_jumpOffset a0 = mm
  have hm : ((((a0 >>> (31 &&& 31)) <<< (20 &&& 31)) ||| (a0 &&& (1044480 : Int32))) ||| (((eb_iushr a0 20) &&& (1 : Int32)) <<< (11 &&& 31))) ||| (((eb_iushr a0 21) &&& (1023 : Int32)) <<< (1 &&& 31)) = mm := hm
  refine lv_iload_n hx hb dX3_jumpOffset_0 rfl (lv_at hl 0 rfl) ?_
  refine lv_bipush (v := 31) hx hb dX3_jumpOffset_1 (by decide) ?_
  refine lv_ishr hx hb dX3_jumpOffset_3 ?_
  refine lv_bipush (v := 20) hx hb dX3_jumpOffset_4 (by decide) ?_
  refine lv_ishl hx hb dX3_jumpOffset_6 ?_
  refine lv_iload_n hx hb dX3_jumpOffset_7 rfl (lv_at hl 0 rfl) ?_
  refine lv_ldc hx hb hown (hts _ (List.mem_cons_of_mem _ wi_19_20)) dX3_jumpOffset_8 ?_
  refine lv_iand hx hb dX3_jumpOffset_10 ?_
  refine lv_ior hx hb dX3_jumpOffset_11 ?_
  refine lv_iload_n hx hb dX3_jumpOffset_12 rfl (lv_at hl 0 rfl) ?_
  refine lv_bipush (v := 20) hx hb dX3_jumpOffset_13 (by decide) ?_
  refine lv_iushr (v := eb_iushr a0 20) hx hb dX3_jumpOffset_15 rfl ?_
  refine lv_iconst (v := 1) hx hb dX3_jumpOffset_16 (by decide) ?_
  refine lv_iand hx hb dX3_jumpOffset_17 ?_
  refine lv_bipush (v := 11) hx hb dX3_jumpOffset_18 (by decide) ?_
  refine lv_ishl hx hb dX3_jumpOffset_20 ?_
  refine lv_ior hx hb dX3_jumpOffset_21 ?_
  refine lv_iload_n hx hb dX3_jumpOffset_22 rfl (lv_at hl 0 rfl) ?_
  refine lv_bipush (v := 21) hx hb dX3_jumpOffset_23 (by decide) ?_
  refine lv_iushr (v := eb_iushr a0 21) hx hb dX3_jumpOffset_25 rfl ?_
  refine lv_sipush (v := 1023) hx hb dX3_jumpOffset_26 (by decide) ?_
  refine lv_iand hx hb dX3_jumpOffset_29 ?_
  refine lv_iconst (v := 1) hx hb dX3_jumpOffset_30 (by decide) ?_
  refine lv_ishl hx hb dX3_jumpOffset_31 ?_
  refine lv_ior hx hb dX3_jumpOffset_32 ?_
  subst hm
  exact eb_iret X hw rfl rfl rfl dX3_jumpOffset_33

set_option maxHeartbeats 4000000 in
set_option maxRecDepth 100000 in
theorem c_X3_changed (l : Launch) (D : va_G) (cy : Nat → ClassId) (ad : Nat → Nat) (σ : eb_St) (a0 : Int32) (a1 : Int64) (a2 : Int64)  : eb_M l yX3_changed (Cond.code yX3_changed cX3_changed 5 (some .long) :: wsL_law) 0 0 D 33 cy cL ad σ [.int a0, .long a1, .long a2] (some (.long (m_X3_changed a0 a1 a2))) σ := by
  refine eb_start (own := RX3) (by decide) rfl rfl (Nat.le_of_ble_eq_true rfl) ?_
  intro p e s m args below meth c A ls X hw hl
  have hl : lv_has ls 5 [(0, .int a0), (1, .long a1), (3, .long a2)] := hl
  have hx := X.1.1
  have hb := X.1.2.1
  have hown := X.1.2.2.2.1
  have hts := X.1.2.2.2.2
  generalize hm : m_X3_changed a0 a1 a2 = mm
  have hm : (if a0 = 1 then a2 else if a0 = 2 then a1 ||| a2 else a1 &&& (a2 ^^^ (-1))) = mm := hm
  refine lv_iload_n hx hb dX3_changed_0 rfl (lv_at hl 0 rfl) ?_
  by_cases h1 : a0 = 1
  · have hm := (if_pos h1).symm.trans hm
    refine lv_lookup (off := 27) (tgt := 28) hx hb dX3_changed_1 (by decide) (by rw [h1]; decide) (by decide) ?_
    refine lv_lload_n hx hb dX3_changed_28 rfl (lv_at hl 2 rfl) ?_
    subst hm
    exact eb_lret X hw rfl rfl rfl dX3_changed_29
  · have hm := (if_neg h1).symm.trans hm
    by_cases h2 : a0 = 2
    · have hm := (if_pos h2).symm.trans hm
      refine lv_lookup (off := 29) (tgt := 30) hx hb dX3_changed_1 (by decide) (by rw [h2]; decide) (by decide) ?_
      refine lv_lload_n hx hb dX3_changed_30 rfl (lv_at hl 1 rfl) ?_
      refine lv_lload_n hx hb dX3_changed_31 rfl (lv_at hl 2 rfl) ?_
      refine lv_lor hx hb dX3_changed_32 ?_
      subst hm
      exact eb_lret X hw rfl rfl rfl dX3_changed_33
    · have hm := (if_neg h2).symm.trans hm
      refine lv_lookup (off := 33) (tgt := 34) hx hb dX3_changed_1 (by decide) (by show Op.lookupswitch.offset [(1, 27), (2, 29)] _ _ = _; rw [lv_osw h1 (by decide)]; rw [lv_osw h2 (by decide)]; rfl) (by decide) ?_
      refine lv_lload_n hx hb dX3_changed_34 rfl (lv_at hl 1 rfl) ?_
      refine lv_lload_n hx hb dX3_changed_35 rfl (lv_at hl 2 rfl) ?_
      refine lv_ldc2 hx hb hown (hts _ (List.mem_cons_of_mem _ wi_21_15)) dX3_changed_36 ?_
      refine lv_lxor hx hb dX3_changed_39 ?_
      refine lv_land hx hb dX3_changed_40 ?_
      subst hm
      exact eb_lret X hw rfl rfl rfl dX3_changed_41

set_option maxHeartbeats 4000000 in
set_option maxRecDepth 100000 in
theorem c_X3_returnFromM (l : Launch) (D : va_G) (cy : Nat → ClassId) (ad : Nat → Nat) (σ : eb_St)   : eb_M l yX3_returnFromM (Cond.code yX3_returnFromM cX3_returnFromM 1 (some .int) :: wsL_law) 0 0 D 33 cy cL ad σ [.ref (ad 9)] (some (.int (m_X3_returnFromM σ).1)) ((m_X3_returnFromM σ).2) := by
  refine eb_start (own := RX3) (by decide) rfl rfl (Nat.le_of_ble_eq_true rfl) ?_
  intro p e s m args below meth c A ls X hw hl
  have hl : lv_has ls 1 [(0, .ref (ad 9))] := hl
  have hx := X.1.1
  have hb := X.1.2.1
  have hown := X.1.2.2.2.1
  have hts := X.1.2.2.2.2
  generalize hm : m_X3_returnFromM σ = mm
  have hm : ((-1), eb_pI (eb_pI (eb_pJ σ 9 5 (σ.2 8 3)) 9 3 (σ.1 8 1)) 8 1 0) = mm := hm
  refine lv_aload_n hx hb dX3_returnFromM_0 rfl (lv_at hl 0 rfl) ?_
  refine lv_aload_n hx hb dX3_returnFromM_1 rfl (lv_at hl 0 rfl) ?_
  refine eb_get (T := TX3) X hw 9 2 (by decide) ⟨rfl, rfl, rfl⟩ (by decide) (fun _ h => List.mem_cons_of_mem _ (inlX3 _ h)) (List.mem_cons_of_mem _ wi_4_0) (v := .ref (ad 8)) rfl dX3_returnFromM_2 ?_
  refine eb_get (T := TX1) X hw 8 3 (by decide) ⟨rfl, rfl, rfl⟩ (by decide) (fun _ h => List.mem_cons_of_mem _ (inlX1 _ h)) (List.mem_cons_of_mem _ wi_20_5) (v := .long (σ.2 8 3)) rfl dX3_returnFromM_5 ?_
  refine eb_putJ (T := TX3) X hw 9 5 (by decide) ⟨rfl, rfl, rfl⟩ (by decide) rfl (fun _ h => List.mem_cons_of_mem _ (inlX3 _ h)) (List.mem_cons_of_mem _ wi_14_18) tyX3 tyX3_ok nmX3 rfl rfl rfl dX3_returnFromM_8 (fun H locs hw => ?_)
  refine lv_aload_n hx hb dX3_returnFromM_11 rfl (lv_at hl 0 rfl) ?_
  refine lv_aload_n hx hb dX3_returnFromM_12 rfl (lv_at hl 0 rfl) ?_
  refine eb_get (T := TX3) X hw 9 2 (by decide) ⟨rfl, rfl, rfl⟩ (by decide) (fun _ h => List.mem_cons_of_mem _ (inlX3 _ h)) (List.mem_cons_of_mem _ wi_4_0) (v := .ref (ad 8)) rfl dX3_returnFromM_13 ?_
  refine eb_get (T := TX1) X hw 8 1 (by decide) ⟨rfl, rfl, rfl⟩ (by decide) (fun _ h => List.mem_cons_of_mem _ (inlX1 _ h)) (List.mem_cons_of_mem _ wi_20_6) (v := .int (σ.1 8 1)) rfl dX3_returnFromM_16 ?_
  refine eb_putI (T := TX3) X hw 9 3 (by decide) ⟨rfl, rfl, rfl⟩ (by decide) rfl (fun _ h => List.mem_cons_of_mem _ (inlX3 _ h)) (List.mem_cons_of_mem _ wi_3_21) tyX3 tyX3_ok nmX3 rfl rfl rfl dX3_returnFromM_19 (fun H locs hw => ?_)
  refine lv_aload_n hx hb dX3_returnFromM_22 rfl (lv_at hl 0 rfl) ?_
  refine eb_get (T := TX3) X hw 9 2 (by decide) ⟨rfl, rfl, rfl⟩ (by decide) (fun _ h => List.mem_cons_of_mem _ (inlX3 _ h)) (List.mem_cons_of_mem _ wi_4_0) (v := .ref (ad 8)) rfl dX3_returnFromM_23 ?_
  refine lv_iconst (v := 0) hx hb dX3_returnFromM_26 (by decide) ?_
  refine eb_putI (T := TX1) X hw 8 1 (by decide) ⟨rfl, rfl, rfl⟩ (by decide) rfl (fun _ h => List.mem_cons_of_mem _ (inlX1 _ h)) (List.mem_cons_of_mem _ wi_20_6) tyX1 tyX1_ok nmX1 rfl rfl rfl dX3_returnFromM_27 (fun H locs hw => ?_)
  refine lv_iconst (v := (-1)) hx hb dX3_returnFromM_30 (by decide) ?_
  subst hm
  exact eb_iret X hw rfl rfl rfl dX3_returnFromM_31

set_option maxHeartbeats 4000000 in
set_option maxRecDepth 100000 in
theorem c_X3_load (l : Launch) (D : va_G) (cy : Nat → ClassId) (ad : Nat → Nat) (σ : eb_St) (a0 : Nat) (a1 : Int32) (ba0 : a0 < 7) : eb_M l yX3_load (Cond.code yX3_load cX3_load 10 (some .int) :: wsL_law) 2 50 D 33 cy cL ad σ [.ref (ad 9), .ref (ad (19 + a0)), .int a1] (some (.int (m_X3_load σ a0 a1).1)) ((m_X3_load σ a0 a1).2) := by
  refine eb_start (own := RX3) (by decide) rfl rfl (Nat.le_of_ble_eq_true rfl) ?_
  intro p e s m args below meth c A ls X hw hl
  have hl : lv_has ls 10 [(0, .ref (ad 9)), (1, .ref (ad (19 + a0))), (2, .int a1)] := hl
  have hx := X.1.1
  have hb := X.1.2.1
  have hown := X.1.2.2.2.1
  have hts := X.1.2.2.2.2
  generalize hm : m_X3_load σ a0 a1 = mm
  have hm : (fun (z1 : Int32) => (if z1 = 7 then (fun (z16 : Int32 × eb_St) => (z16.1, z16.2)) (m_X3_illegal σ a1) else (fun (z3 : Int64) => (fun (x4 : Int64) => (fun (x5 : Int32) => (if (x4 &&& ((x5 - 1).toInt64)) = 0 then (fun (z7 : Bool) => (if (eb_b z7) = 0 then (fun (z14 : Int32 × eb_St) => (z14.1, z14.2)) (m_X3_fault σ 5 x4) else (fun (z9 : Int64) => (fun (x10 : Int32) => (if (4 : Int32) ≤ z1 then (fun (z12 : Int32 × eb_St) => (z12.1, z12.2)) (m_X3_finish σ a0 a1 z9) else (fun (z13 : Int32 × eb_St) => (z13.1, z13.2)) (m_X3_finish σ a0 a1 (eb_lshr (eb_lshl z9 x10) x10)))) (64 - (8 * x5))) (m_X4_load σ x4.toInt32 x5))) (m_X6_lets σ (σ.1 9 3) x4 x5 1) else (fun (z15 : Int32 × eb_St) => (z15.1, z15.2)) (m_X3_fault σ 4 x4))) (1 <<< ((z1 &&& 3) &&& 31))) (z3 + ((a1 >>> (20 &&& 31)).toInt64))) (m_X3_first σ a0 a1))) (m_X3_kind a1) = mm := hm
  refine lv_iload_n hx hb dX3_load_0 rfl (lv_at hl 2 rfl) ?_
  obtain ⟨z1, qz1⟩ : ∃ t : Int32, t = m_X3_kind a1 := ⟨_, rfl⟩
  have hm : (if z1 = 7 then (fun (z16 : Int32 × eb_St) => (z16.1, z16.2)) (m_X3_illegal σ a1) else (fun (z3 : Int64) => (fun (x4 : Int64) => (fun (x5 : Int32) => (if (x4 &&& ((x5 - 1).toInt64)) = 0 then (fun (z7 : Bool) => (if (eb_b z7) = 0 then (fun (z14 : Int32 × eb_St) => (z14.1, z14.2)) (m_X3_fault σ 5 x4) else (fun (z9 : Int64) => (fun (x10 : Int32) => (if (4 : Int32) ≤ z1 then (fun (z12 : Int32 × eb_St) => (z12.1, z12.2)) (m_X3_finish σ a0 a1 z9) else (fun (z13 : Int32 × eb_St) => (z13.1, z13.2)) (m_X3_finish σ a0 a1 (eb_lshr (eb_lshl z9 x10) x10)))) (64 - (8 * x5))) (m_X4_load σ x4.toInt32 x5))) (m_X6_lets σ (σ.1 9 3) x4 x5 1) else (fun (z15 : Int32 × eb_St) => (z15.1, z15.2)) (m_X3_fault σ 4 x4))) (1 <<< ((z1 &&& 3) &&& 31))) (z3 + ((a1 >>> (20 &&& 31)).toInt64))) (m_X3_first σ a0 a1)) = mm := by rw [qz1]; exact hm
  have hc : eb_M l yX3_kind (Cond.code yX3_kind cX3_kind 1 (some .int) :: wsL_law) 0 0 D 33 cy cL ad σ [.int a1] (some (.int z1)) σ := by rw [qz1]; exact c_X3_kind l D cy ad σ a1
  refine eb_callS (n := 1) X hw hl.1 (rest := []) hc (eb_goodS wi_15_17 wi_15_18 wi_2_11 wi_15_19) rfl (by decide +kernel) ⟨by decide, by decide⟩ rfl rfl (Nat.le_of_ble_eq_true rfl) dX3_load_1 ⟨by decide, by decide⟩ (st' := [.int z1]) rfl (fun H locs hw => ?_)
  refine lv_istore_n (lv' := [(3, .int z1), (0, .ref (ad 9)), (1, .ref (ad (19 + a0))), (2, .int a1)]) hx hb dX3_load_4 rfl hl (by decide) rfl (fun ls hl => ?_)
  refine lv_iload_n hx hb dX3_load_5 rfl (lv_at hl 0 rfl) ?_
  refine lv_bipush (v := 7) hx hb dX3_load_6 (by decide) ?_
  refine lv_icmp_ne (tgt := 17) hx hb dX3_load_8 (by decide) (fun h2 => ?_) (fun h2 => ?_)
  · have hm := (if_neg h2).symm.trans hm
    refine lv_aload_n hx hb dX3_load_17 rfl (lv_at hl 2 rfl) ?_
    refine lv_iload_n hx hb dX3_load_18 rfl (lv_at hl 3 rfl) ?_
    obtain ⟨z3, qz3⟩ : ∃ t : Int64, t = m_X3_first σ a0 a1 := ⟨_, rfl⟩
    have hm : (fun (x4 : Int64) => (fun (x5 : Int32) => (if (x4 &&& ((x5 - 1).toInt64)) = 0 then (fun (z7 : Bool) => (if (eb_b z7) = 0 then (fun (z14 : Int32 × eb_St) => (z14.1, z14.2)) (m_X3_fault σ 5 x4) else (fun (z9 : Int64) => (fun (x10 : Int32) => (if (4 : Int32) ≤ z1 then (fun (z12 : Int32 × eb_St) => (z12.1, z12.2)) (m_X3_finish σ a0 a1 z9) else (fun (z13 : Int32 × eb_St) => (z13.1, z13.2)) (m_X3_finish σ a0 a1 (eb_lshr (eb_lshl z9 x10) x10)))) (64 - (8 * x5))) (m_X4_load σ x4.toInt32 x5))) (m_X6_lets σ (σ.1 9 3) x4 x5 1) else (fun (z15 : Int32 × eb_St) => (z15.1, z15.2)) (m_X3_fault σ 4 x4))) (1 <<< ((z1 &&& 3) &&& 31))) (z3 + ((a1 >>> (20 &&& 31)).toInt64)) = mm := by rw [qz3]; exact hm
    have hc : eb_M l yX3_first (Cond.code yX3_first cX3_first 2 (some .long) :: wsL_law) 1 21 D 33 cy cL ad σ [.ref (ad (19 + a0)), .int a1] (some (.long z3)) σ := by rw [qz3]; exact c_X3_first l D cy ad σ a0 a1 (by omega)
    refine eb_callS (n := 2) X hw hl.1 (rest := []) hc (eb_goodS wi_16_1 wi_16_2 wi_2_11 wi_16_3) rfl (by decide +kernel) ⟨by decide, by decide⟩ rfl rfl (Nat.le_of_ble_eq_true rfl) dX3_load_19 ⟨by decide, by decide⟩ (st' := [.long z3]) rfl (fun H locs hw => ?_)
    refine lv_iload_n hx hb dX3_load_22 rfl (lv_at hl 3 rfl) ?_
    refine lv_bipush (v := 20) hx hb dX3_load_23 (by decide) ?_
    refine lv_ishr hx hb dX3_load_25 ?_
    refine lv_i2l (v := (a1 >>> (20 &&& 31)).toInt64) hx hb dX3_load_26 rfl ?_
    refine lv_ladd hx hb dX3_load_27 ?_
    refine lv_topl (fun x4 ex4 => ?_)
    have hm : (fun (x5 : Int32) => (if (x4 &&& ((x5 - 1).toInt64)) = 0 then (fun (z7 : Bool) => (if (eb_b z7) = 0 then (fun (z14 : Int32 × eb_St) => (z14.1, z14.2)) (m_X3_fault σ 5 x4) else (fun (z9 : Int64) => (fun (x10 : Int32) => (if (4 : Int32) ≤ z1 then (fun (z12 : Int32 × eb_St) => (z12.1, z12.2)) (m_X3_finish σ a0 a1 z9) else (fun (z13 : Int32 × eb_St) => (z13.1, z13.2)) (m_X3_finish σ a0 a1 (eb_lshr (eb_lshl z9 x10) x10)))) (64 - (8 * x5))) (m_X4_load σ x4.toInt32 x5))) (m_X6_lets σ (σ.1 9 3) x4 x5 1) else (fun (z15 : Int32 × eb_St) => (z15.1, z15.2)) (m_X3_fault σ 4 x4))) (1 <<< ((z1 &&& 3) &&& 31)) = mm := by rw [ex4]; exact hm
    refine lv_lstore (lv' := [(4, .long x4), (3, .int z1), (0, .ref (ad 9)), (1, .ref (ad (19 + a0))), (2, .int a1)]) hx hb dX3_load_28 hl (by decide) rfl (fun ls hl => ?_)
    refine lv_iconst (v := 1) hx hb dX3_load_30 (by decide) ?_
    refine lv_iload_n hx hb dX3_load_31 rfl (lv_at hl 1 rfl) ?_
    refine lv_iconst (v := 3) hx hb dX3_load_32 (by decide) ?_
    refine lv_iand hx hb dX3_load_33 ?_
    refine lv_ishl hx hb dX3_load_34 ?_
    refine lv_topi (fun x5 ex5 => ?_)
    have hm : (if (x4 &&& ((x5 - 1).toInt64)) = 0 then (fun (z7 : Bool) => (if (eb_b z7) = 0 then (fun (z14 : Int32 × eb_St) => (z14.1, z14.2)) (m_X3_fault σ 5 x4) else (fun (z9 : Int64) => (fun (x10 : Int32) => (if (4 : Int32) ≤ z1 then (fun (z12 : Int32 × eb_St) => (z12.1, z12.2)) (m_X3_finish σ a0 a1 z9) else (fun (z13 : Int32 × eb_St) => (z13.1, z13.2)) (m_X3_finish σ a0 a1 (eb_lshr (eb_lshl z9 x10) x10)))) (64 - (8 * x5))) (m_X4_load σ x4.toInt32 x5))) (m_X6_lets σ (σ.1 9 3) x4 x5 1) else (fun (z15 : Int32 × eb_St) => (z15.1, z15.2)) (m_X3_fault σ 4 x4)) = mm := by rw [ex5]; exact hm
    refine lv_istore (lv' := [(6, .int x5), (4, .long x4), (3, .int z1), (0, .ref (ad 9)), (1, .ref (ad (19 + a0))), (2, .int a1)]) hx hb dX3_load_35 hl (by decide) rfl (fun ls hl => ?_)
    refine lv_lload hx hb dX3_load_37 (lv_at hl 1 rfl) ?_
    refine lv_iload hx hb dX3_load_39 (lv_at hl 0 rfl) ?_
    refine lv_iconst (v := 1) hx hb dX3_load_41 (by decide) ?_
    refine lv_isub hx hb dX3_load_42 ?_
    refine lv_i2l (v := (x5 - 1).toInt64) hx hb dX3_load_43 rfl ?_
    refine lv_land hx hb dX3_load_44 ?_
    refine lv_lconst (v := 0) hx hb dX3_load_45 (by decide) ?_
    refine eb_lif_eq (tgt := 58) hx hb dX3_load_46 dX3_load_47 (by decide) (fun h6 => ?_) (fun h6 => ?_)
    · have hm := (if_pos h6).symm.trans hm
      refine lv_aload_n hx hb dX3_load_58 rfl (lv_at hl 3 rfl) ?_
      refine eb_get (T := TX3) X hw 9 1 (by decide) ⟨rfl, rfl, rfl⟩ (by decide) (fun _ h => List.mem_cons_of_mem _ (inlX3 _ h)) (List.mem_cons_of_mem _ wi_3_23) (v := .ref (ad 3)) rfl dX3_load_59 ?_
      refine lv_aload_n hx hb dX3_load_62 rfl (lv_at hl 3 rfl) ?_
      refine eb_get (T := TX3) X hw 9 3 (by decide) ⟨rfl, rfl, rfl⟩ (by decide) (fun _ h => List.mem_cons_of_mem _ (inlX3 _ h)) (List.mem_cons_of_mem _ wi_3_21) (v := .int (σ.1 9 3)) rfl dX3_load_63 ?_
      refine lv_lload hx hb dX3_load_66 (lv_at hl 1 rfl) ?_
      refine lv_iload hx hb dX3_load_68 (lv_at hl 0 rfl) ?_
      refine lv_iconst (v := 1) hx hb dX3_load_70 (by decide) ?_
      obtain ⟨z7, qz7⟩ : ∃ t : Bool, t = m_X6_lets σ (σ.1 9 3) x4 x5 1 := ⟨_, rfl⟩
      have hm : (if (eb_b z7) = 0 then (fun (z14 : Int32 × eb_St) => (z14.1, z14.2)) (m_X3_fault σ 5 x4) else (fun (z9 : Int64) => (fun (x10 : Int32) => (if (4 : Int32) ≤ z1 then (fun (z12 : Int32 × eb_St) => (z12.1, z12.2)) (m_X3_finish σ a0 a1 z9) else (fun (z13 : Int32 × eb_St) => (z13.1, z13.2)) (m_X3_finish σ a0 a1 (eb_lshr (eb_lshl z9 x10) x10)))) (64 - (8 * x5))) (m_X4_load σ x4.toInt32 x5)) = mm := by rw [qz7]; exact hm
      have hc : eb_M l yX6_lets (Cond.code yX6_lets cX6_lets 8 (some .boolean) :: wsL_law) 1 23 D 33 cy cL ad σ [.ref (ad 3), .int (σ.1 9 3), .long x4, .int x5, .int 1] (some (.int (eb_b z7))) σ := by rw [qz7]; exact c_X6_lets l D cy ad σ (σ.1 9 3) x4 x5 1
      refine eb_callV (n := 4) (as := [.int (σ.1 9 3), .long x4, .int x5, .int 1]) (rest := []) X hw hl.1 3 hc (by decide) ⟨rfl, rfl, rfl⟩ (eb_goodV wi_15_0 wi_15_1 wi_15_2 wi_1_23 wi_15_3) rfl (by decide +kernel) ⟨by decide, by decide⟩ rfl rfl (Nat.le_of_ble_eq_true rfl) dX3_load_71 ⟨by decide, by decide⟩ (st' := [.int (eb_b z7)]) rfl (fun H locs hw => ?_)
      refine lv_if_ne (tgt := 85) hx hb dX3_load_74 (by decide) (fun h8 => ?_) (fun h8 => ?_)
      · have hm := (if_neg h8).symm.trans hm
        refine lv_aload_n hx hb dX3_load_85 rfl (lv_at hl 3 rfl) ?_
        refine eb_get (T := TX3) X hw 9 0 (by decide) ⟨rfl, rfl, rfl⟩ (by decide) (fun _ h => List.mem_cons_of_mem _ (inlX3 _ h)) (List.mem_cons_of_mem _ wi_3_22) (v := .ref (ad 1)) rfl dX3_load_86 ?_
        refine lv_lload hx hb dX3_load_89 (lv_at hl 1 rfl) ?_
        refine lv_l2i (v := x4.toInt32) hx hb dX3_load_91 rfl ?_
        refine lv_iload hx hb dX3_load_92 (lv_at hl 0 rfl) ?_
        obtain ⟨z9, qz9⟩ : ∃ t : Int64, t = m_X4_load σ x4.toInt32 x5 := ⟨_, rfl⟩
        have hm : (fun (x10 : Int32) => (if (4 : Int32) ≤ z1 then (fun (z12 : Int32 × eb_St) => (z12.1, z12.2)) (m_X3_finish σ a0 a1 z9) else (fun (z13 : Int32 × eb_St) => (z13.1, z13.2)) (m_X3_finish σ a0 a1 (eb_lshr (eb_lshl z9 x10) x10)))) (64 - (8 * x5)) = mm := by rw [qz9]; exact hm
        have hc : eb_M l yX4_load (Cond.code yX4_load cX4_load 3 (some .long) :: wsL_law) 1 20 D 33 cy cL ad σ [.ref (ad 1), .int x4.toInt32, .int x5] (some (.long z9)) σ := by rw [qz9]; exact c_X4_load l D cy ad σ x4.toInt32 x5
        refine eb_callV (n := 2) (as := [.int x4.toInt32, .int x5]) (rest := []) X hw hl.1 1 hc (by decide) ⟨rfl, rfl, rfl⟩ (eb_goodV wi_15_8 wi_11_17 wi_11_18 wi_1_19 wi_11_19) rfl (by decide +kernel) ⟨by decide, by decide⟩ rfl rfl (Nat.le_of_ble_eq_true rfl) dX3_load_94 ⟨by decide, by decide⟩ (st' := [.long z9]) rfl (fun H locs hw => ?_)
        refine lv_lstore (lv' := [(7, .long z9), (6, .int x5), (4, .long x4), (3, .int z1), (0, .ref (ad 9)), (1, .ref (ad (19 + a0))), (2, .int a1)]) hx hb dX3_load_97 hl (by decide) rfl (fun ls hl => ?_)
        refine lv_bipush (v := 64) hx hb dX3_load_99 (by decide) ?_
        refine lv_bipush (v := 8) hx hb dX3_load_101 (by decide) ?_
        refine lv_iload hx hb dX3_load_103 (lv_at hl 1 rfl) ?_
        refine lv_imul hx hb dX3_load_105 ?_
        refine lv_isub hx hb dX3_load_106 ?_
        refine lv_topi (fun x10 ex10 => ?_)
        have hm : (if (4 : Int32) ≤ z1 then (fun (z12 : Int32 × eb_St) => (z12.1, z12.2)) (m_X3_finish σ a0 a1 z9) else (fun (z13 : Int32 × eb_St) => (z13.1, z13.2)) (m_X3_finish σ a0 a1 (eb_lshr (eb_lshl z9 x10) x10))) = mm := by rw [ex10]; exact hm
        refine lv_istore (lv' := [(9, .int x10), (7, .long z9), (6, .int x5), (4, .long x4), (3, .int z1), (0, .ref (ad 9)), (1, .ref (ad (19 + a0))), (2, .int a1)]) hx hb dX3_load_107 hl (by decide) rfl (fun ls hl => ?_)
        refine lv_aload_n hx hb dX3_load_109 rfl (lv_at hl 6 rfl) ?_
        refine lv_iload_n hx hb dX3_load_110 rfl (lv_at hl 7 rfl) ?_
        refine lv_iload_n hx hb dX3_load_111 rfl (lv_at hl 4 rfl) ?_
        refine lv_iconst (v := 4) hx hb dX3_load_112 (by decide) ?_
        refine lv_icmp_ge (tgt := 127) hx hb dX3_load_113 (by decide) (fun h11 => ?_) (fun h11 => ?_)
        · have hm := (if_pos h11).symm.trans hm
          refine lv_lload hx hb dX3_load_127 (lv_at hl 1 rfl) ?_
          obtain ⟨z12, qz12⟩ : ∃ t : Int32 × eb_St, t = m_X3_finish σ a0 a1 z9 := ⟨_, rfl⟩
          have hm : (z12.1, z12.2) = mm := by rw [qz12]; exact hm
          have hc : eb_M l yX3_finish (Cond.code yX3_finish cX3_finish 4 (some .int) :: wsL_law) 1 23 D 33 cy cL ad σ [.ref (ad (19 + a0)), .int a1, .long z9] (some (.int z12.1)) z12.2 := by rw [qz12]; exact c_X3_finish l D cy ad σ a0 a1 z9 (by omega)
          refine eb_callS (n := 3) X hw hl.1 (rest := []) hc (eb_goodS wi_16_8 wi_16_9 wi_2_11 wi_16_10) rfl (by decide +kernel) ⟨by decide, by decide⟩ rfl rfl (Nat.le_of_ble_eq_true rfl) dX3_load_129 ⟨by decide, by decide⟩ (st' := [.int z12.1]) rfl (fun H locs hw => ?_)
          subst hm
          exact eb_iret X hw rfl rfl rfl dX3_load_132
        · have hm := (if_neg h11).symm.trans hm
          refine lv_lload hx hb dX3_load_116 (lv_at hl 1 rfl) ?_
          refine lv_iload hx hb dX3_load_118 (lv_at hl 0 rfl) ?_
          refine lv_lshl (v := eb_lshl z9 x10) hx hb dX3_load_120 rfl ?_
          refine lv_iload hx hb dX3_load_121 (lv_at hl 0 rfl) ?_
          refine lv_lshr (v := eb_lshr (eb_lshl z9 x10) x10) hx hb dX3_load_123 rfl ?_
          refine lv_goto (tgt := 129) hx hb dX3_load_124 (by decide) ?_
          obtain ⟨z13, qz13⟩ : ∃ t : Int32 × eb_St, t = m_X3_finish σ a0 a1 (eb_lshr (eb_lshl z9 x10) x10) := ⟨_, rfl⟩
          have hm : (z13.1, z13.2) = mm := by rw [qz13]; exact hm
          have hc : eb_M l yX3_finish (Cond.code yX3_finish cX3_finish 4 (some .int) :: wsL_law) 1 23 D 33 cy cL ad σ [.ref (ad (19 + a0)), .int a1, .long (eb_lshr (eb_lshl z9 x10) x10)] (some (.int z13.1)) z13.2 := by rw [qz13]; exact c_X3_finish l D cy ad σ a0 a1 (eb_lshr (eb_lshl z9 x10) x10) (by omega)
          refine eb_callS (n := 3) X hw hl.1 (rest := []) hc (eb_goodS wi_16_8 wi_16_9 wi_2_11 wi_16_10) rfl (by decide +kernel) ⟨by decide, by decide⟩ rfl rfl (Nat.le_of_ble_eq_true rfl) dX3_load_129 ⟨by decide, by decide⟩ (st' := [.int z13.1]) rfl (fun H locs hw => ?_)
          subst hm
          exact eb_iret X hw rfl rfl rfl dX3_load_132
      · have hm := (if_pos h8).symm.trans hm
        refine lv_aload_n hx hb dX3_load_77 rfl (lv_at hl 3 rfl) ?_
        refine lv_iconst (v := 5) hx hb dX3_load_78 (by decide) ?_
        refine lv_lload hx hb dX3_load_79 (lv_at hl 1 rfl) ?_
        obtain ⟨z14, qz14⟩ : ∃ t : Int32 × eb_St, t = m_X3_fault σ 5 x4 := ⟨_, rfl⟩
        have hm : (z14.1, z14.2) = mm := by rw [qz14]; exact hm
        have hc : eb_M l yX3_fault (Cond.code yX3_fault cX3_fault 4 (some .int) :: wsL_law) 0 0 D 33 cy cL ad σ [.ref (ad 9), .int 5, .long x4] (some (.int z14.1)) z14.2 := by rw [qz14]; exact c_X3_fault l D cy ad σ 5 x4
        refine eb_callV (n := 2) (as := [.int 5, .long x4]) (rest := []) X hw hl.1 9 hc (by decide) ⟨rfl, rfl, rfl⟩ (eb_goodV wi_14_19 wi_14_20 wi_14_21 wi_2_11 wi_14_22) rfl (by decide +kernel) ⟨by decide, by decide⟩ rfl rfl (Nat.le_of_ble_eq_true rfl) dX3_load_81 ⟨by decide, by decide⟩ (st' := [.int z14.1]) rfl (fun H locs hw => ?_)
        subst hm
        exact eb_iret X hw rfl rfl rfl dX3_load_84
    · have hm := (if_neg h6).symm.trans hm
      refine lv_aload_n hx hb dX3_load_50 rfl (lv_at hl 3 rfl) ?_
      refine lv_iconst (v := 4) hx hb dX3_load_51 (by decide) ?_
      refine lv_lload hx hb dX3_load_52 (lv_at hl 1 rfl) ?_
      obtain ⟨z15, qz15⟩ : ∃ t : Int32 × eb_St, t = m_X3_fault σ 4 x4 := ⟨_, rfl⟩
      have hm : (z15.1, z15.2) = mm := by rw [qz15]; exact hm
      have hc : eb_M l yX3_fault (Cond.code yX3_fault cX3_fault 4 (some .int) :: wsL_law) 0 0 D 33 cy cL ad σ [.ref (ad 9), .int 4, .long x4] (some (.int z15.1)) z15.2 := by rw [qz15]; exact c_X3_fault l D cy ad σ 4 x4
      refine eb_callV (n := 2) (as := [.int 4, .long x4]) (rest := []) X hw hl.1 9 hc (by decide) ⟨rfl, rfl, rfl⟩ (eb_goodV wi_14_19 wi_14_20 wi_14_21 wi_2_11 wi_14_22) rfl (by decide +kernel) ⟨by decide, by decide⟩ rfl rfl (Nat.le_of_ble_eq_true rfl) dX3_load_54 ⟨by decide, by decide⟩ (st' := [.int z15.1]) rfl (fun H locs hw => ?_)
      subst hm
      exact eb_iret X hw rfl rfl rfl dX3_load_57
  · have hm := (if_pos h2).symm.trans hm
    refine lv_aload_n hx hb dX3_load_11 rfl (lv_at hl 1 rfl) ?_
    refine lv_iload_n hx hb dX3_load_12 rfl (lv_at hl 3 rfl) ?_
    obtain ⟨z16, qz16⟩ : ∃ t : Int32 × eb_St, t = m_X3_illegal σ a1 := ⟨_, rfl⟩
    have hm : (z16.1, z16.2) = mm := by rw [qz16]; exact hm
    have hc : eb_M l yX3_illegal (Cond.code yX3_illegal cX3_illegal 2 (some .int) :: wsL_law) 1 23 D 33 cy cL ad σ [.ref (ad 9), .int a1] (some (.int z16.1)) z16.2 := by rw [qz16]; exact c_X3_illegal l D cy ad σ a1
    refine eb_callV (n := 1) (as := [.int a1]) (rest := []) X hw hl.1 9 hc (by decide) ⟨rfl, rfl, rfl⟩ (eb_goodV wi_15_20 wi_15_21 wi_15_22 wi_2_11 wi_15_23) rfl (by decide +kernel) ⟨by decide, by decide⟩ rfl rfl (Nat.le_of_ble_eq_true rfl) dX3_load_13 ⟨by decide, by decide⟩ (st' := [.int z16.1]) rfl (fun H locs hw => ?_)
    subst hm
    exact eb_iret X hw rfl rfl rfl dX3_load_16

set_option maxHeartbeats 4000000 in
set_option maxRecDepth 100000 in
theorem c_X3_store (l : Launch) (D : va_G) (cy : Nat → ClassId) (ad : Nat → Nat) (σ : eb_St) (a0 : Nat) (a1 : Int32) (ba0 : a0 < 7) : eb_M l yX3_store (Cond.code yX3_store cX3_store 7 (some .int) :: wsL_law) 2 50 D 33 cy cL ad σ [.ref (ad 9), .ref (ad (19 + a0)), .int a1] (some (.int (m_X3_store σ a0 a1).1)) ((m_X3_store σ a0 a1).2) := by
  refine eb_start (own := RX3) (by decide) rfl rfl (Nat.le_of_ble_eq_true rfl) ?_
  intro p e s m args below meth c A ls X hw hl
  have hl : lv_has ls 7 [(0, .ref (ad 9)), (1, .ref (ad (19 + a0))), (2, .int a1)] := hl
  have hx := X.1.1
  have hb := X.1.2.1
  have hown := X.1.2.2.2.1
  have hts := X.1.2.2.2.2
  generalize hm : m_X3_store σ a0 a1 = mm
  have hm : (fun (z1 : Int32) => (if z1 ≤ 3 then (fun (z3 : Int64) => (fun (x4 : Int64) => (fun (x5 : Int32) => (if (x4 &&& ((x5 - 1).toInt64)) = 0 then (fun (z7 : Bool) => (if (eb_b z7) = 0 then (fun (z11 : Int32 × eb_St) => (z11.1, z11.2)) (m_X3_fault σ 7 x4) else (fun (z9 : Int64) => (fun (z10 : eb_St) => ((-1), z10)) (m_X4_store σ x4.toInt32 x5 z9)) (m_X3_second σ a0 a1))) (m_X6_lets σ (σ.1 9 3) x4 x5 2) else (fun (z12 : Int32 × eb_St) => (z12.1, z12.2)) (m_X3_fault σ 6 x4))) (1 <<< (z1 &&& 31))) (z3 + ((((a1 >>> (25 &&& 31)) <<< (5 &&& 31)) ||| ((eb_iushr a1 7) &&& 31)).toInt64))) (m_X3_first σ a0 a1) else (fun (z13 : Int32 × eb_St) => (z13.1, z13.2)) (m_X3_illegal σ a1))) (m_X3_kind a1) = mm := hm
  refine lv_iload_n hx hb dX3_store_0 rfl (lv_at hl 2 rfl) ?_
  obtain ⟨z1, qz1⟩ : ∃ t : Int32, t = m_X3_kind a1 := ⟨_, rfl⟩
  have hm : (if z1 ≤ 3 then (fun (z3 : Int64) => (fun (x4 : Int64) => (fun (x5 : Int32) => (if (x4 &&& ((x5 - 1).toInt64)) = 0 then (fun (z7 : Bool) => (if (eb_b z7) = 0 then (fun (z11 : Int32 × eb_St) => (z11.1, z11.2)) (m_X3_fault σ 7 x4) else (fun (z9 : Int64) => (fun (z10 : eb_St) => ((-1), z10)) (m_X4_store σ x4.toInt32 x5 z9)) (m_X3_second σ a0 a1))) (m_X6_lets σ (σ.1 9 3) x4 x5 2) else (fun (z12 : Int32 × eb_St) => (z12.1, z12.2)) (m_X3_fault σ 6 x4))) (1 <<< (z1 &&& 31))) (z3 + ((((a1 >>> (25 &&& 31)) <<< (5 &&& 31)) ||| ((eb_iushr a1 7) &&& 31)).toInt64))) (m_X3_first σ a0 a1) else (fun (z13 : Int32 × eb_St) => (z13.1, z13.2)) (m_X3_illegal σ a1)) = mm := by rw [qz1]; exact hm
  have hc : eb_M l yX3_kind (Cond.code yX3_kind cX3_kind 1 (some .int) :: wsL_law) 0 0 D 33 cy cL ad σ [.int a1] (some (.int z1)) σ := by rw [qz1]; exact c_X3_kind l D cy ad σ a1
  refine eb_callS (n := 1) X hw hl.1 (rest := []) hc (eb_goodS wi_15_17 wi_15_18 wi_2_11 wi_15_19) rfl (by decide +kernel) ⟨by decide, by decide⟩ rfl rfl (Nat.le_of_ble_eq_true rfl) dX3_store_1 ⟨by decide, by decide⟩ (st' := [.int z1]) rfl (fun H locs hw => ?_)
  refine lv_istore_n (lv' := [(3, .int z1), (0, .ref (ad 9)), (1, .ref (ad (19 + a0))), (2, .int a1)]) hx hb dX3_store_4 rfl hl (by decide) rfl (fun ls hl => ?_)
  refine lv_iload_n hx hb dX3_store_5 rfl (lv_at hl 0 rfl) ?_
  refine lv_iconst (v := 3) hx hb dX3_store_6 (by decide) ?_
  refine lv_icmp_le (tgt := 16) hx hb dX3_store_7 (by decide) (fun h2 => ?_) (fun h2 => ?_)
  · have hm := (if_pos h2).symm.trans hm
    refine lv_aload_n hx hb dX3_store_16 rfl (lv_at hl 2 rfl) ?_
    refine lv_iload_n hx hb dX3_store_17 rfl (lv_at hl 3 rfl) ?_
    obtain ⟨z3, qz3⟩ : ∃ t : Int64, t = m_X3_first σ a0 a1 := ⟨_, rfl⟩
    have hm : (fun (x4 : Int64) => (fun (x5 : Int32) => (if (x4 &&& ((x5 - 1).toInt64)) = 0 then (fun (z7 : Bool) => (if (eb_b z7) = 0 then (fun (z11 : Int32 × eb_St) => (z11.1, z11.2)) (m_X3_fault σ 7 x4) else (fun (z9 : Int64) => (fun (z10 : eb_St) => ((-1), z10)) (m_X4_store σ x4.toInt32 x5 z9)) (m_X3_second σ a0 a1))) (m_X6_lets σ (σ.1 9 3) x4 x5 2) else (fun (z12 : Int32 × eb_St) => (z12.1, z12.2)) (m_X3_fault σ 6 x4))) (1 <<< (z1 &&& 31))) (z3 + ((((a1 >>> (25 &&& 31)) <<< (5 &&& 31)) ||| ((eb_iushr a1 7) &&& 31)).toInt64)) = mm := by rw [qz3]; exact hm
    have hc : eb_M l yX3_first (Cond.code yX3_first cX3_first 2 (some .long) :: wsL_law) 1 21 D 33 cy cL ad σ [.ref (ad (19 + a0)), .int a1] (some (.long z3)) σ := by rw [qz3]; exact c_X3_first l D cy ad σ a0 a1 (by omega)
    refine eb_callS (n := 2) X hw hl.1 (rest := []) hc (eb_goodS wi_16_1 wi_16_2 wi_2_11 wi_16_3) rfl (by decide +kernel) ⟨by decide, by decide⟩ rfl rfl (Nat.le_of_ble_eq_true rfl) dX3_store_18 ⟨by decide, by decide⟩ (st' := [.long z3]) rfl (fun H locs hw => ?_)
    refine lv_iload_n hx hb dX3_store_21 rfl (lv_at hl 3 rfl) ?_
    refine lv_bipush (v := 25) hx hb dX3_store_22 (by decide) ?_
    refine lv_ishr hx hb dX3_store_24 ?_
    refine lv_iconst (v := 5) hx hb dX3_store_25 (by decide) ?_
    refine lv_ishl hx hb dX3_store_26 ?_
    refine lv_iload_n hx hb dX3_store_27 rfl (lv_at hl 3 rfl) ?_
    refine lv_bipush (v := 7) hx hb dX3_store_28 (by decide) ?_
    refine lv_iushr (v := eb_iushr a1 7) hx hb dX3_store_30 rfl ?_
    refine lv_bipush (v := 31) hx hb dX3_store_31 (by decide) ?_
    refine lv_iand hx hb dX3_store_33 ?_
    refine lv_ior hx hb dX3_store_34 ?_
    refine lv_i2l (v := (((a1 >>> (25 &&& 31)) <<< (5 &&& 31)) ||| ((eb_iushr a1 7) &&& 31)).toInt64) hx hb dX3_store_35 rfl ?_
    refine lv_ladd hx hb dX3_store_36 ?_
    refine lv_topl (fun x4 ex4 => ?_)
    have hm : (fun (x5 : Int32) => (if (x4 &&& ((x5 - 1).toInt64)) = 0 then (fun (z7 : Bool) => (if (eb_b z7) = 0 then (fun (z11 : Int32 × eb_St) => (z11.1, z11.2)) (m_X3_fault σ 7 x4) else (fun (z9 : Int64) => (fun (z10 : eb_St) => ((-1), z10)) (m_X4_store σ x4.toInt32 x5 z9)) (m_X3_second σ a0 a1))) (m_X6_lets σ (σ.1 9 3) x4 x5 2) else (fun (z12 : Int32 × eb_St) => (z12.1, z12.2)) (m_X3_fault σ 6 x4))) (1 <<< (z1 &&& 31)) = mm := by rw [ex4]; exact hm
    refine lv_lstore (lv' := [(4, .long x4), (3, .int z1), (0, .ref (ad 9)), (1, .ref (ad (19 + a0))), (2, .int a1)]) hx hb dX3_store_37 hl (by decide) rfl (fun ls hl => ?_)
    refine lv_iconst (v := 1) hx hb dX3_store_39 (by decide) ?_
    refine lv_iload_n hx hb dX3_store_40 rfl (lv_at hl 1 rfl) ?_
    refine lv_ishl hx hb dX3_store_41 ?_
    refine lv_topi (fun x5 ex5 => ?_)
    have hm : (if (x4 &&& ((x5 - 1).toInt64)) = 0 then (fun (z7 : Bool) => (if (eb_b z7) = 0 then (fun (z11 : Int32 × eb_St) => (z11.1, z11.2)) (m_X3_fault σ 7 x4) else (fun (z9 : Int64) => (fun (z10 : eb_St) => ((-1), z10)) (m_X4_store σ x4.toInt32 x5 z9)) (m_X3_second σ a0 a1))) (m_X6_lets σ (σ.1 9 3) x4 x5 2) else (fun (z12 : Int32 × eb_St) => (z12.1, z12.2)) (m_X3_fault σ 6 x4)) = mm := by rw [ex5]; exact hm
    refine lv_istore (lv' := [(6, .int x5), (4, .long x4), (3, .int z1), (0, .ref (ad 9)), (1, .ref (ad (19 + a0))), (2, .int a1)]) hx hb dX3_store_42 hl (by decide) rfl (fun ls hl => ?_)
    refine lv_lload hx hb dX3_store_44 (lv_at hl 1 rfl) ?_
    refine lv_iload hx hb dX3_store_46 (lv_at hl 0 rfl) ?_
    refine lv_iconst (v := 1) hx hb dX3_store_48 (by decide) ?_
    refine lv_isub hx hb dX3_store_49 ?_
    refine lv_i2l (v := (x5 - 1).toInt64) hx hb dX3_store_50 rfl ?_
    refine lv_land hx hb dX3_store_51 ?_
    refine lv_lconst (v := 0) hx hb dX3_store_52 (by decide) ?_
    refine eb_lif_eq (tgt := 66) hx hb dX3_store_53 dX3_store_54 (by decide) (fun h6 => ?_) (fun h6 => ?_)
    · have hm := (if_pos h6).symm.trans hm
      refine lv_aload_n hx hb dX3_store_66 rfl (lv_at hl 3 rfl) ?_
      refine eb_get (T := TX3) X hw 9 1 (by decide) ⟨rfl, rfl, rfl⟩ (by decide) (fun _ h => List.mem_cons_of_mem _ (inlX3 _ h)) (List.mem_cons_of_mem _ wi_3_23) (v := .ref (ad 3)) rfl dX3_store_67 ?_
      refine lv_aload_n hx hb dX3_store_70 rfl (lv_at hl 3 rfl) ?_
      refine eb_get (T := TX3) X hw 9 3 (by decide) ⟨rfl, rfl, rfl⟩ (by decide) (fun _ h => List.mem_cons_of_mem _ (inlX3 _ h)) (List.mem_cons_of_mem _ wi_3_21) (v := .int (σ.1 9 3)) rfl dX3_store_71 ?_
      refine lv_lload hx hb dX3_store_74 (lv_at hl 1 rfl) ?_
      refine lv_iload hx hb dX3_store_76 (lv_at hl 0 rfl) ?_
      refine lv_iconst (v := 2) hx hb dX3_store_78 (by decide) ?_
      obtain ⟨z7, qz7⟩ : ∃ t : Bool, t = m_X6_lets σ (σ.1 9 3) x4 x5 2 := ⟨_, rfl⟩
      have hm : (if (eb_b z7) = 0 then (fun (z11 : Int32 × eb_St) => (z11.1, z11.2)) (m_X3_fault σ 7 x4) else (fun (z9 : Int64) => (fun (z10 : eb_St) => ((-1), z10)) (m_X4_store σ x4.toInt32 x5 z9)) (m_X3_second σ a0 a1)) = mm := by rw [qz7]; exact hm
      have hc : eb_M l yX6_lets (Cond.code yX6_lets cX6_lets 8 (some .boolean) :: wsL_law) 1 23 D 33 cy cL ad σ [.ref (ad 3), .int (σ.1 9 3), .long x4, .int x5, .int 2] (some (.int (eb_b z7))) σ := by rw [qz7]; exact c_X6_lets l D cy ad σ (σ.1 9 3) x4 x5 2
      refine eb_callV (n := 4) (as := [.int (σ.1 9 3), .long x4, .int x5, .int 2]) (rest := []) X hw hl.1 3 hc (by decide) ⟨rfl, rfl, rfl⟩ (eb_goodV wi_15_0 wi_15_1 wi_15_2 wi_1_23 wi_15_3) rfl (by decide +kernel) ⟨by decide, by decide⟩ rfl rfl (Nat.le_of_ble_eq_true rfl) dX3_store_79 ⟨by decide, by decide⟩ (st' := [.int (eb_b z7)]) rfl (fun H locs hw => ?_)
      refine lv_if_ne (tgt := 94) hx hb dX3_store_82 (by decide) (fun h8 => ?_) (fun h8 => ?_)
      · have hm := (if_neg h8).symm.trans hm
        refine lv_aload_n hx hb dX3_store_94 rfl (lv_at hl 3 rfl) ?_
        refine eb_get (T := TX3) X hw 9 0 (by decide) ⟨rfl, rfl, rfl⟩ (by decide) (fun _ h => List.mem_cons_of_mem _ (inlX3 _ h)) (List.mem_cons_of_mem _ wi_3_22) (v := .ref (ad 1)) rfl dX3_store_95 ?_
        refine lv_lload hx hb dX3_store_98 (lv_at hl 1 rfl) ?_
        refine lv_l2i (v := x4.toInt32) hx hb dX3_store_100 rfl ?_
        refine lv_iload hx hb dX3_store_101 (lv_at hl 0 rfl) ?_
        refine lv_aload_n hx hb dX3_store_103 rfl (lv_at hl 4 rfl) ?_
        refine lv_iload_n hx hb dX3_store_104 rfl (lv_at hl 5 rfl) ?_
        obtain ⟨z9, qz9⟩ : ∃ t : Int64, t = m_X3_second σ a0 a1 := ⟨_, rfl⟩
        have hm : (fun (z10 : eb_St) => ((-1), z10)) (m_X4_store σ x4.toInt32 x5 z9) = mm := by rw [qz9]; exact hm
        have hc : eb_M l yX3_second (Cond.code yX3_second cX3_second 2 (some .long) :: wsL_law) 1 21 D 33 cy cL ad σ [.ref (ad (19 + a0)), .int a1] (some (.long z9)) σ := by rw [qz9]; exact c_X3_second l D cy ad σ a0 a1 (by omega)
        refine eb_callS (n := 2) X hw hl.1 (rest := [.int x5, .int x4.toInt32, .ref (ad 1)]) hc (eb_goodS wi_17_15 wi_17_16 wi_2_11 wi_17_17) rfl (by decide +kernel) ⟨by decide, by decide⟩ rfl rfl (Nat.le_of_ble_eq_true rfl) dX3_store_105 ⟨by decide, by decide⟩ (st' := [.long z9, .int x5, .int x4.toInt32, .ref (ad 1)]) rfl (fun H locs hw => ?_)
        obtain ⟨z10, qz10⟩ : ∃ t : eb_St, t = m_X4_store σ x4.toInt32 x5 z9 := ⟨_, rfl⟩
        have hm : ((-1), z10) = mm := by rw [qz10]; exact hm
        have hc : eb_M l yX4_store (Cond.code yX4_store cX4_store 8 none :: wsL_law) 1 20 D 33 cy cL ad σ [.ref (ad 1), .int x4.toInt32, .int x5, .long z9] (none) z10 := by rw [qz10]; exact c_X4_store l D cy ad σ x4.toInt32 x5 z9
        refine eb_callV (n := 3) (as := [.int x4.toInt32, .int x5, .long z9]) (rest := []) X hw hl.1 1 hc (by decide) ⟨rfl, rfl, rfl⟩ (eb_goodV wi_17_18 wi_7_9 wi_7_10 wi_1_19 wi_7_11) rfl (by decide +kernel) ⟨by decide, by decide⟩ rfl rfl (Nat.le_of_ble_eq_true rfl) dX3_store_108 ⟨by decide, by decide⟩ (st' := []) rfl (fun H locs hw => ?_)
        refine lv_iconst (v := (-1)) hx hb dX3_store_111 (by decide) ?_
        subst hm
        exact eb_iret X hw rfl rfl rfl dX3_store_112
      · have hm := (if_pos h8).symm.trans hm
        refine lv_aload_n hx hb dX3_store_85 rfl (lv_at hl 3 rfl) ?_
        refine lv_bipush (v := 7) hx hb dX3_store_86 (by decide) ?_
        refine lv_lload hx hb dX3_store_88 (lv_at hl 1 rfl) ?_
        obtain ⟨z11, qz11⟩ : ∃ t : Int32 × eb_St, t = m_X3_fault σ 7 x4 := ⟨_, rfl⟩
        have hm : (z11.1, z11.2) = mm := by rw [qz11]; exact hm
        have hc : eb_M l yX3_fault (Cond.code yX3_fault cX3_fault 4 (some .int) :: wsL_law) 0 0 D 33 cy cL ad σ [.ref (ad 9), .int 7, .long x4] (some (.int z11.1)) z11.2 := by rw [qz11]; exact c_X3_fault l D cy ad σ 7 x4
        refine eb_callV (n := 2) (as := [.int 7, .long x4]) (rest := []) X hw hl.1 9 hc (by decide) ⟨rfl, rfl, rfl⟩ (eb_goodV wi_14_19 wi_14_20 wi_14_21 wi_2_11 wi_14_22) rfl (by decide +kernel) ⟨by decide, by decide⟩ rfl rfl (Nat.le_of_ble_eq_true rfl) dX3_store_90 ⟨by decide, by decide⟩ (st' := [.int z11.1]) rfl (fun H locs hw => ?_)
        subst hm
        exact eb_iret X hw rfl rfl rfl dX3_store_93
    · have hm := (if_neg h6).symm.trans hm
      refine lv_aload_n hx hb dX3_store_57 rfl (lv_at hl 3 rfl) ?_
      refine lv_bipush (v := 6) hx hb dX3_store_58 (by decide) ?_
      refine lv_lload hx hb dX3_store_60 (lv_at hl 1 rfl) ?_
      obtain ⟨z12, qz12⟩ : ∃ t : Int32 × eb_St, t = m_X3_fault σ 6 x4 := ⟨_, rfl⟩
      have hm : (z12.1, z12.2) = mm := by rw [qz12]; exact hm
      have hc : eb_M l yX3_fault (Cond.code yX3_fault cX3_fault 4 (some .int) :: wsL_law) 0 0 D 33 cy cL ad σ [.ref (ad 9), .int 6, .long x4] (some (.int z12.1)) z12.2 := by rw [qz12]; exact c_X3_fault l D cy ad σ 6 x4
      refine eb_callV (n := 2) (as := [.int 6, .long x4]) (rest := []) X hw hl.1 9 hc (by decide) ⟨rfl, rfl, rfl⟩ (eb_goodV wi_14_19 wi_14_20 wi_14_21 wi_2_11 wi_14_22) rfl (by decide +kernel) ⟨by decide, by decide⟩ rfl rfl (Nat.le_of_ble_eq_true rfl) dX3_store_62 ⟨by decide, by decide⟩ (st' := [.int z12.1]) rfl (fun H locs hw => ?_)
      subst hm
      exact eb_iret X hw rfl rfl rfl dX3_store_65
  · have hm := (if_neg h2).symm.trans hm
    refine lv_aload_n hx hb dX3_store_10 rfl (lv_at hl 1 rfl) ?_
    refine lv_iload_n hx hb dX3_store_11 rfl (lv_at hl 3 rfl) ?_
    obtain ⟨z13, qz13⟩ : ∃ t : Int32 × eb_St, t = m_X3_illegal σ a1 := ⟨_, rfl⟩
    have hm : (z13.1, z13.2) = mm := by rw [qz13]; exact hm
    have hc : eb_M l yX3_illegal (Cond.code yX3_illegal cX3_illegal 2 (some .int) :: wsL_law) 1 23 D 33 cy cL ad σ [.ref (ad 9), .int a1] (some (.int z13.1)) z13.2 := by rw [qz13]; exact c_X3_illegal l D cy ad σ a1
    refine eb_callV (n := 1) (as := [.int a1]) (rest := []) X hw hl.1 9 hc (by decide) ⟨rfl, rfl, rfl⟩ (eb_goodV wi_15_20 wi_15_21 wi_15_22 wi_2_11 wi_15_23) rfl (by decide +kernel) ⟨by decide, by decide⟩ rfl rfl (Nat.le_of_ble_eq_true rfl) dX3_store_12 ⟨by decide, by decide⟩ (st' := [.int z13.1]) rfl (fun H locs hw => ?_)
    subst hm
    exact eb_iret X hw rfl rfl rfl dX3_store_15

set_option maxHeartbeats 4000000 in
set_option maxRecDepth 100000 in
theorem k_X3_withImmediate_56 {p : Program} {l : Launch} {e : Env} {s : State} {m : MethodId} {args : Array Value} {below : List Frame} {meth : Method} {c : Code} {A : Nat → Prop} {H : Heap} {locs : List Loc} {ls : Array Slot} {D : va_G} {cy : Nat → ClassId} {ad : Nat → Nat} (X : eb_X p s m args meth c cX3_withImmediate 6 RX3 (Cond.code yX3_withImmediate cX3_withImmediate 6 (some .int) :: wsL_law) (some .int) D cy A)   (σ : eb_St) (v1 : Nat) (v2 : Int32) (v3 : Int32) (v5 : Int32) (bv1 : v1 < 7) {mm : Int32 × eb_St} (hm : (m_X3_withImmediate_56  σ v1 v2 v3 v5) = mm) (hw : eb_H D 33 cy cL ad A s.heap σ H locs) (hl : lv_has ls 6 [(1, .ref (ad (19 + v1))), (2, .int v2), (3, .int v3), (5, .int v5)]) : W p l e ({ frames := 3, cells := 0, slots := 0, locals := 72 } : Room) s m args below meth c H locs 0 0 (MQ below (eb_Q D 33 cy cL ad A (some (.int mm.1)) mm.2) args s 0 0 A) (F0 m 56 ls []) := by
  have hx := X.1.1
  have hb := X.1.2.1
  have hown := X.1.2.2.2.1
  have hts := X.1.2.2.2.2
  have hm : (fun (z10 : Int64) => (fun (z11 : Int64) => (fun (z12 : Int32 × eb_St) => (z12.1, z12.2)) (m_X3_finish σ v1 v2 z11)) (m_X0_basic v3 v5 z10 ((v2 >>> (20 &&& 31)).toInt64))) (m_X3_first σ v1 v2) = mm := hm
  refine lv_aload_n hx hb dX3_withImmediate_56 rfl (lv_at hl 0 rfl) ?_
  refine lv_iload_n hx hb dX3_withImmediate_57 rfl (lv_at hl 1 rfl) ?_
  refine lv_iload_n hx hb dX3_withImmediate_58 rfl (lv_at hl 2 rfl) ?_
  refine lv_iload hx hb dX3_withImmediate_59 (lv_at hl 3 rfl) ?_
  refine lv_aload_n hx hb dX3_withImmediate_61 rfl (lv_at hl 0 rfl) ?_
  refine lv_iload_n hx hb dX3_withImmediate_62 rfl (lv_at hl 1 rfl) ?_
  obtain ⟨z10, qz10⟩ : ∃ t : Int64, t = m_X3_first σ v1 v2 := ⟨_, rfl⟩
  have hm : (fun (z11 : Int64) => (fun (z12 : Int32 × eb_St) => (z12.1, z12.2)) (m_X3_finish σ v1 v2 z11)) (m_X0_basic v3 v5 z10 ((v2 >>> (20 &&& 31)).toInt64)) = mm := by rw [qz10]; exact hm
  have hc : eb_M l yX3_first (Cond.code yX3_first cX3_first 2 (some .long) :: wsL_law) 1 21 D 33 cy cL ad σ [.ref (ad (19 + v1)), .int v2] (some (.long z10)) σ := by rw [qz10]; exact c_X3_first l D cy ad σ v1 v2 (by omega)
  refine eb_callS (n := 2) X hw hl.1 (rest := [.int v5, .int v3, .int v2, .ref (ad (19 + v1))]) hc (eb_goodS wi_16_1 wi_16_2 wi_2_11 wi_16_3) rfl (by decide +kernel) ⟨by decide, by decide⟩ rfl rfl (Nat.le_of_ble_eq_true rfl) dX3_withImmediate_63 ⟨by decide, by decide⟩ (st' := [.long z10, .int v5, .int v3, .int v2, .ref (ad (19 + v1))]) rfl (fun H locs hw => ?_)
  refine lv_iload_n hx hb dX3_withImmediate_66 rfl (lv_at hl 1 rfl) ?_
  refine lv_bipush (v := 20) hx hb dX3_withImmediate_67 (by decide) ?_
  refine lv_ishr hx hb dX3_withImmediate_69 ?_
  refine lv_i2l (v := (v2 >>> (20 &&& 31)).toInt64) hx hb dX3_withImmediate_70 rfl ?_
  obtain ⟨z11, qz11⟩ : ∃ t : Int64, t = m_X0_basic v3 v5 z10 ((v2 >>> (20 &&& 31)).toInt64) := ⟨_, rfl⟩
  have hm : (fun (z12 : Int32 × eb_St) => (z12.1, z12.2)) (m_X3_finish σ v1 v2 z11) = mm := by rw [qz11]; exact hm
  have hc : eb_M l yX0_basic (Cond.code yX0_basic cX0_basic 7 (some .long) :: wsL_law) 2 46 D 33 cy cL ad σ [.int v3, .int v5, .long z10, .long ((v2 >>> (20 &&& 31)).toInt64)] (some (.long z11)) σ := by rw [qz11]; exact c_X0_basic l D cy ad σ v3 v5 z10 ((v2 >>> (20 &&& 31)).toInt64)
  refine eb_callS (n := 4) X hw hl.1 (rest := [.int v2, .ref (ad (19 + v1))]) hc (eb_goodS wi_16_16 wi_16_17 wi_16_18 wi_16_19) rfl (by decide +kernel) ⟨by decide, by decide⟩ rfl rfl (Nat.le_of_ble_eq_true rfl) dX3_withImmediate_71 ⟨by decide, by decide⟩ (st' := [.long z11, .int v2, .ref (ad (19 + v1))]) rfl (fun H locs hw => ?_)
  obtain ⟨z12, qz12⟩ : ∃ t : Int32 × eb_St, t = m_X3_finish σ v1 v2 z11 := ⟨_, rfl⟩
  have hm : (z12.1, z12.2) = mm := by rw [qz12]; exact hm
  have hc : eb_M l yX3_finish (Cond.code yX3_finish cX3_finish 4 (some .int) :: wsL_law) 1 23 D 33 cy cL ad σ [.ref (ad (19 + v1)), .int v2, .long z11] (some (.int z12.1)) z12.2 := by rw [qz12]; exact c_X3_finish l D cy ad σ v1 v2 z11 (by omega)
  refine eb_callS (n := 3) X hw hl.1 (rest := []) hc (eb_goodS wi_16_8 wi_16_9 wi_2_11 wi_16_10) rfl (by decide +kernel) ⟨by decide, by decide⟩ rfl rfl (Nat.le_of_ble_eq_true rfl) dX3_withImmediate_74 ⟨by decide, by decide⟩ (st' := [.int z12.1]) rfl (fun H locs hw => ?_)
  subst hm
  exact eb_iret X hw rfl rfl rfl dX3_withImmediate_77
set_option maxHeartbeats 4000000 in
set_option maxRecDepth 100000 in
theorem k_X3_withImmediate_40 {p : Program} {l : Launch} {e : Env} {s : State} {m : MethodId} {args : Array Value} {below : List Frame} {meth : Method} {c : Code} {A : Nat → Prop} {H : Heap} {locs : List Loc} {ls : Array Slot} {D : va_G} {cy : Nat → ClassId} {ad : Nat → Nat} (X : eb_X p s m args meth c cX3_withImmediate 6 RX3 (Cond.code yX3_withImmediate cX3_withImmediate 6 (some .int) :: wsL_law) (some .int) D cy A)   (σ : eb_St) (v1 : Nat) (v2 : Int32) (v3 : Int32) (v4 : Int32) (v5 : Int32) (bv1 : v1 < 7) {mm : Int32 × eb_St} (hm : (m_X3_withImmediate_40  σ v1 v2 v3 v4 v5) = mm) (hw : eb_H D 33 cy cL ad A s.heap σ H locs) (hl : lv_has ls 6 [(0, .ref (ad 9)), (1, .ref (ad (19 + v1))), (2, .int v2), (3, .int v3), (4, .int v4), (5, .int v5)]) : W p l e ({ frames := 3, cells := 0, slots := 0, locals := 72 } : Room) s m args below meth c H locs 0 0 (MQ below (eb_Q D 33 cy cL ad A (some (.int mm.1)) mm.2) args s 0 0 A) (F0 m 40 ls []) := by
  have hx := X.1.1
  have hb := X.1.2.1
  have hown := X.1.2.2.2.1
  have hts := X.1.2.2.2.2
  have hm : (if v4 = 0 then m_X3_withImmediate_56  σ v1 v2 v3 v5 else (if v5 = 0 then (fun (z9 : Int32 × eb_St) => (z9.1, z9.2)) (m_X3_illegal σ v2) else m_X3_withImmediate_56  σ v1 v2 v3 v5)) = mm := hm
  refine lv_iload hx hb dX3_withImmediate_40 (lv_at hl 4 rfl) ?_
  refine lv_if_eq (tgt := 56) hx hb dX3_withImmediate_42 (by decide) (fun h7 => ?_) (fun h7 => ?_)
  · have hm := (if_pos h7).symm.trans hm
    exact k_X3_withImmediate_56 X   σ v1 v2 v3 v5 (by omega) hm hw (lv_sub hl [1, 2, 3, 5] rfl)
  · have hm := (if_neg h7).symm.trans hm
    refine lv_iload hx hb dX3_withImmediate_45 (lv_at hl 5 rfl) ?_
    refine lv_if_ne (tgt := 56) hx hb dX3_withImmediate_47 (by decide) (fun h8 => ?_) (fun h8 => ?_)
    · have hm := (if_neg h8).symm.trans hm
      exact k_X3_withImmediate_56 X   σ v1 v2 v3 v5 (by omega) hm hw (lv_sub hl [1, 2, 3, 5] rfl)
    · have hm := (if_pos h8).symm.trans hm
      refine lv_aload_n hx hb dX3_withImmediate_50 rfl (lv_at hl 0 rfl) ?_
      refine lv_iload_n hx hb dX3_withImmediate_51 rfl (lv_at hl 2 rfl) ?_
      obtain ⟨z9, qz9⟩ : ∃ t : Int32 × eb_St, t = m_X3_illegal σ v2 := ⟨_, rfl⟩
      have hm : (z9.1, z9.2) = mm := by rw [qz9]; exact hm
      have hc : eb_M l yX3_illegal (Cond.code yX3_illegal cX3_illegal 2 (some .int) :: wsL_law) 1 23 D 33 cy cL ad σ [.ref (ad 9), .int v2] (some (.int z9.1)) z9.2 := by rw [qz9]; exact c_X3_illegal l D cy ad σ v2
      refine eb_callV (n := 1) (as := [.int v2]) (rest := []) X hw hl.1 9 hc (by decide) ⟨rfl, rfl, rfl⟩ (eb_goodV wi_15_20 wi_15_21 wi_15_22 wi_2_11 wi_15_23) rfl (by decide +kernel) ⟨by decide, by decide⟩ rfl rfl (Nat.le_of_ble_eq_true rfl) dX3_withImmediate_52 ⟨by decide, by decide⟩ (st' := [.int z9.1]) rfl (fun H locs hw => ?_)
      subst hm
      exact eb_iret X hw rfl rfl rfl dX3_withImmediate_55
set_option maxHeartbeats 4000000 in
set_option maxRecDepth 100000 in
theorem k_X3_withImmediate_28 {p : Program} {l : Launch} {e : Env} {s : State} {m : MethodId} {args : Array Value} {below : List Frame} {meth : Method} {c : Code} {A : Nat → Prop} {H : Heap} {locs : List Loc} {ls : Array Slot} {D : va_G} {cy : Nat → ClassId} {ad : Nat → Nat} (X : eb_X p s m args meth c cX3_withImmediate 6 RX3 (Cond.code yX3_withImmediate cX3_withImmediate 6 (some .int) :: wsL_law) (some .int) D cy A)   (σ : eb_St) (v1 : Nat) (v2 : Int32) (v3 : Int32) (v4 : Int32) (s0 : Int32) (bv1 : v1 < 7) {mm : Int32 × eb_St} (hm : (m_X3_withImmediate_28  σ v1 v2 v3 v4 s0) = mm) (hw : eb_H D 33 cy cL ad A s.heap σ H locs) (hl : lv_has ls 6 [(0, .ref (ad 9)), (1, .ref (ad (19 + v1))), (2, .int v2), (3, .int v3), (4, .int v4)]) : W p l e ({ frames := 3, cells := 0, slots := 0, locals := 72 } : Room) s m args below meth c H locs 0 0 (MQ below (eb_Q D 33 cy cL ad A (some (.int mm.1)) mm.2) args s 0 0 A) (F0 m 28 ls [.int s0]) := by
  have hx := X.1.1
  have hb := X.1.2.1
  have hown := X.1.2.2.2.1
  have hts := X.1.2.2.2.2
  have hm : (if v3 = 1 then m_X3_withImmediate_40  σ v1 v2 v3 v4 s0 else (if v3 = 5 then m_X3_withImmediate_40  σ v1 v2 v3 v4 s0 else m_X3_withImmediate_56  σ v1 v2 v3 s0)) = mm := hm
  refine lv_istore (lv' := [(5, .int s0), (0, .ref (ad 9)), (1, .ref (ad (19 + v1))), (2, .int v2), (3, .int v3), (4, .int v4)]) hx hb dX3_withImmediate_28 hl (by decide) rfl (fun ls hl => ?_)
  refine lv_iload_n hx hb dX3_withImmediate_30 rfl (lv_at hl 4 rfl) ?_
  refine lv_iconst (v := 1) hx hb dX3_withImmediate_31 (by decide) ?_
  refine lv_icmp_eq (tgt := 40) hx hb dX3_withImmediate_32 (by decide) (fun h5 => ?_) (fun h5 => ?_)
  · have hm := (if_pos h5).symm.trans hm
    exact k_X3_withImmediate_40 X   σ v1 v2 v3 v4 s0 (by omega) hm hw (lv_sub hl [1, 2, 3, 4, 5, 0] rfl)
  · have hm := (if_neg h5).symm.trans hm
    refine lv_iload_n hx hb dX3_withImmediate_35 rfl (lv_at hl 4 rfl) ?_
    refine lv_iconst (v := 5) hx hb dX3_withImmediate_36 (by decide) ?_
    refine lv_icmp_ne (tgt := 56) hx hb dX3_withImmediate_37 (by decide) (fun h6 => ?_) (fun h6 => ?_)
    · have hm := (if_neg h6).symm.trans hm
      exact k_X3_withImmediate_56 X   σ v1 v2 v3 s0 (by omega) hm hw (lv_sub hl [2, 3, 4, 0] rfl)
    · have hm := (if_pos h6).symm.trans hm
      exact k_X3_withImmediate_40 X   σ v1 v2 v3 v4 s0 (by omega) hm hw (lv_sub hl [1, 2, 3, 4, 5, 0] rfl)
set_option maxHeartbeats 4000000 in
set_option maxRecDepth 100000 in
theorem k_X3_withImmediate_27 {p : Program} {l : Launch} {e : Env} {s : State} {m : MethodId} {args : Array Value} {below : List Frame} {meth : Method} {c : Code} {A : Nat → Prop} {H : Heap} {locs : List Loc} {ls : Array Slot} {D : va_G} {cy : Nat → ClassId} {ad : Nat → Nat} (X : eb_X p s m args meth c cX3_withImmediate 6 RX3 (Cond.code yX3_withImmediate cX3_withImmediate 6 (some .int) :: wsL_law) (some .int) D cy A)   (σ : eb_St) (v1 : Nat) (v2 : Int32) (v3 : Int32) (v4 : Int32) (bv1 : v1 < 7) {mm : Int32 × eb_St} (hm : (m_X3_withImmediate_27  σ v1 v2 v3 v4) = mm) (hw : eb_H D 33 cy cL ad A s.heap σ H locs) (hl : lv_has ls 6 [(0, .ref (ad 9)), (1, .ref (ad (19 + v1))), (2, .int v2), (3, .int v3), (4, .int v4)]) : W p l e ({ frames := 3, cells := 0, slots := 0, locals := 72 } : Room) s m args below meth c H locs 0 0 (MQ below (eb_Q D 33 cy cL ad A (some (.int mm.1)) mm.2) args s 0 0 A) (F0 m 27 ls []) := by
  have hx := X.1.1
  have hb := X.1.2.1
  have hown := X.1.2.2.2.1
  have hts := X.1.2.2.2.2
  have hm : m_X3_withImmediate_28  σ v1 v2 v3 v4 0 = mm := hm
  refine lv_iconst (v := 0) hx hb dX3_withImmediate_27 (by decide) ?_
  exact k_X3_withImmediate_28 X   σ v1 v2 v3 v4 0 (by omega) hm hw (lv_sub hl [0, 1, 2, 3, 4] rfl)
set_option maxHeartbeats 4000000 in
set_option maxRecDepth 100000 in
theorem c_X3_withImmediate (l : Launch) (D : va_G) (cy : Nat → ClassId) (ad : Nat → Nat) (σ : eb_St) (a0 : Nat) (a1 : Int32) (ba0 : a0 < 7) : eb_M l yX3_withImmediate (Cond.code yX3_withImmediate cX3_withImmediate 6 (some .int) :: wsL_law) 3 72 D 33 cy cL ad σ [.ref (ad 9), .ref (ad (19 + a0)), .int a1] (some (.int (m_X3_withImmediate σ a0 a1).1)) ((m_X3_withImmediate σ a0 a1).2) := by
  refine eb_start (own := RX3) (by decide) rfl rfl (Nat.le_of_ble_eq_true rfl) ?_
  intro p e s m args below meth c A ls X hw hl
  have hl : lv_has ls 6 [(0, .ref (ad 9)), (1, .ref (ad (19 + a0))), (2, .int a1)] := hl
  have hx := X.1.1
  have hb := X.1.2.1
  have hown := X.1.2.2.2.1
  have hts := X.1.2.2.2.2
  generalize hm : m_X3_withImmediate σ a0 a1 = mm
  have hm : (fun (z1 : Int32) => (fun (x2 : Int32) => (if z1 = 5 then (if x2 = 16 then m_X3_withImmediate_28  σ a0 a1 z1 x2 1 else m_X3_withImmediate_27  σ a0 a1 z1 x2) else m_X3_withImmediate_27  σ a0 a1 z1 x2)) (eb_iushr a1 26)) (m_X3_kind a1) = mm := hm
  refine lv_iload_n hx hb dX3_withImmediate_0 rfl (lv_at hl 2 rfl) ?_
  obtain ⟨z1, qz1⟩ : ∃ t : Int32, t = m_X3_kind a1 := ⟨_, rfl⟩
  have hm : (fun (x2 : Int32) => (if z1 = 5 then (if x2 = 16 then m_X3_withImmediate_28  σ a0 a1 z1 x2 1 else m_X3_withImmediate_27  σ a0 a1 z1 x2) else m_X3_withImmediate_27  σ a0 a1 z1 x2)) (eb_iushr a1 26) = mm := by rw [qz1]; exact hm
  have hc : eb_M l yX3_kind (Cond.code yX3_kind cX3_kind 1 (some .int) :: wsL_law) 0 0 D 33 cy cL ad σ [.int a1] (some (.int z1)) σ := by rw [qz1]; exact c_X3_kind l D cy ad σ a1
  refine eb_callS (n := 1) X hw hl.1 (rest := []) hc (eb_goodS wi_15_17 wi_15_18 wi_2_11 wi_15_19) rfl (by decide +kernel) ⟨by decide, by decide⟩ rfl rfl (Nat.le_of_ble_eq_true rfl) dX3_withImmediate_1 ⟨by decide, by decide⟩ (st' := [.int z1]) rfl (fun H locs hw => ?_)
  refine lv_istore_n (lv' := [(3, .int z1), (0, .ref (ad 9)), (1, .ref (ad (19 + a0))), (2, .int a1)]) hx hb dX3_withImmediate_4 rfl hl (by decide) rfl (fun ls hl => ?_)
  refine lv_iload_n hx hb dX3_withImmediate_5 rfl (lv_at hl 3 rfl) ?_
  refine lv_bipush (v := 26) hx hb dX3_withImmediate_6 (by decide) ?_
  refine lv_iushr (v := eb_iushr a1 26) hx hb dX3_withImmediate_8 rfl ?_
  refine lv_topi (fun x2 ex2 => ?_)
  have hm : (if z1 = 5 then (if x2 = 16 then m_X3_withImmediate_28  σ a0 a1 z1 x2 1 else m_X3_withImmediate_27  σ a0 a1 z1 x2) else m_X3_withImmediate_27  σ a0 a1 z1 x2) = mm := by rw [ex2]; exact hm
  refine lv_istore (lv' := [(4, .int x2), (3, .int z1), (0, .ref (ad 9)), (1, .ref (ad (19 + a0))), (2, .int a1)]) hx hb dX3_withImmediate_9 hl (by decide) rfl (fun ls hl => ?_)
  refine lv_iload_n hx hb dX3_withImmediate_11 rfl (lv_at hl 1 rfl) ?_
  refine lv_iconst (v := 5) hx hb dX3_withImmediate_12 (by decide) ?_
  refine lv_icmp_ne (tgt := 27) hx hb dX3_withImmediate_13 (by decide) (fun h3 => ?_) (fun h3 => ?_)
  · have hm := (if_neg h3).symm.trans hm
    exact k_X3_withImmediate_27 X   σ a0 a1 z1 x2 (by omega) hm hw (lv_sub hl [2, 3, 4, 1, 0] rfl)
  · have hm := (if_pos h3).symm.trans hm
    refine lv_iload hx hb dX3_withImmediate_16 (lv_at hl 0 rfl) ?_
    refine lv_bipush (v := 16) hx hb dX3_withImmediate_18 (by decide) ?_
    refine lv_icmp_ne (tgt := 27) hx hb dX3_withImmediate_20 (by decide) (fun h4 => ?_) (fun h4 => ?_)
    · have hm := (if_neg h4).symm.trans hm
      exact k_X3_withImmediate_27 X   σ a0 a1 z1 x2 (by omega) hm hw (lv_sub hl [2, 3, 4, 1, 0] rfl)
    · have hm := (if_pos h4).symm.trans hm
      refine lv_iconst (v := 1) hx hb dX3_withImmediate_23 (by decide) ?_
      refine lv_goto (tgt := 28) hx hb dX3_withImmediate_24 (by decide) ?_
      exact k_X3_withImmediate_28 X   σ a0 a1 z1 x2 1 (by omega) hm hw (lv_sub hl [2, 3, 4, 1, 0] rfl)

set_option maxHeartbeats 4000000 in
set_option maxRecDepth 100000 in
theorem k_X3_withImmediateWord_72 {p : Program} {l : Launch} {e : Env} {s : State} {m : MethodId} {args : Array Value} {below : List Frame} {meth : Method} {c : Code} {A : Nat → Prop} {H : Heap} {locs : List Loc} {ls : Array Slot} {D : va_G} {cy : Nat → ClassId} {ad : Nat → Nat} (X : eb_X p s m args meth c cX3_withImmediateWord 7 RX3 (Cond.code yX3_withImmediateWord cX3_withImmediateWord 7 (some .int) :: wsL_law) (some .int) D cy A)   (σ : eb_St) (v1 : Nat) (v2 : Int32) (v3 : Int32) (v5 : Int32) (bv1 : v1 < 7) {mm : Int32 × eb_St} (hm : (m_X3_withImmediateWord_72  σ v1 v2 v3 v5) = mm) (hw : eb_H D 33 cy cL ad A s.heap σ H locs) (hl : lv_has ls 7 [(1, .ref (ad (19 + v1))), (2, .int v2), (3, .int v3), (5, .int v5)]) : W p l e ({ frames := 2, cells := 0, slots := 0, locals := 46 } : Room) s m args below meth c H locs 0 0 (MQ below (eb_Q D 33 cy cL ad A (some (.int mm.1)) mm.2) args s 0 0 A) (F0 m 72 ls []) := by
  have hx := X.1.1
  have hb := X.1.2.1
  have hown := X.1.2.2.2.1
  have hts := X.1.2.2.2.2
  have hm : (fun (z12 : Int64) => (fun (z13 : Int64) => (fun (z14 : Int32 × eb_St) => (z14.1, z14.2)) (m_X3_finish σ v1 v2 z13)) (m_X0_basicWord v3 v5 z12.toInt32 (v2 >>> (20 &&& 31)))) (m_X3_first σ v1 v2) = mm := hm
  refine lv_aload_n hx hb dX3_withImmediateWord_72 rfl (lv_at hl 0 rfl) ?_
  refine lv_iload_n hx hb dX3_withImmediateWord_73 rfl (lv_at hl 1 rfl) ?_
  refine lv_iload_n hx hb dX3_withImmediateWord_74 rfl (lv_at hl 2 rfl) ?_
  refine lv_iload hx hb dX3_withImmediateWord_75 (lv_at hl 3 rfl) ?_
  refine lv_aload_n hx hb dX3_withImmediateWord_77 rfl (lv_at hl 0 rfl) ?_
  refine lv_iload_n hx hb dX3_withImmediateWord_78 rfl (lv_at hl 1 rfl) ?_
  obtain ⟨z12, qz12⟩ : ∃ t : Int64, t = m_X3_first σ v1 v2 := ⟨_, rfl⟩
  have hm : (fun (z13 : Int64) => (fun (z14 : Int32 × eb_St) => (z14.1, z14.2)) (m_X3_finish σ v1 v2 z13)) (m_X0_basicWord v3 v5 z12.toInt32 (v2 >>> (20 &&& 31))) = mm := by rw [qz12]; exact hm
  have hc : eb_M l yX3_first (Cond.code yX3_first cX3_first 2 (some .long) :: wsL_law) 1 21 D 33 cy cL ad σ [.ref (ad (19 + v1)), .int v2] (some (.long z12)) σ := by rw [qz12]; exact c_X3_first l D cy ad σ v1 v2 (by omega)
  refine eb_callS (n := 2) X hw hl.1 (rest := [.int v5, .int v3, .int v2, .ref (ad (19 + v1))]) hc (eb_goodS wi_16_1 wi_16_2 wi_2_11 wi_16_3) rfl (by decide +kernel) ⟨by decide, by decide⟩ rfl rfl (Nat.le_of_ble_eq_true rfl) dX3_withImmediateWord_79 ⟨by decide, by decide⟩ (st' := [.long z12, .int v5, .int v3, .int v2, .ref (ad (19 + v1))]) rfl (fun H locs hw => ?_)
  refine lv_l2i (v := z12.toInt32) hx hb dX3_withImmediateWord_82 rfl ?_
  refine lv_iload_n hx hb dX3_withImmediateWord_83 rfl (lv_at hl 1 rfl) ?_
  refine lv_bipush (v := 20) hx hb dX3_withImmediateWord_84 (by decide) ?_
  refine lv_ishr hx hb dX3_withImmediateWord_86 ?_
  obtain ⟨z13, qz13⟩ : ∃ t : Int64, t = m_X0_basicWord v3 v5 z12.toInt32 (v2 >>> (20 &&& 31)) := ⟨_, rfl⟩
  have hm : (fun (z14 : Int32 × eb_St) => (z14.1, z14.2)) (m_X3_finish σ v1 v2 z13) = mm := by rw [qz13]; exact hm
  have hc : eb_M l yX0_basicWord (Cond.code yX0_basicWord cX0_basicWord 5 (some .long) :: wsL_law) 0 0 D 33 cy cL ad σ [.int v3, .int v5, .int z12.toInt32, .int (v2 >>> (20 &&& 31))] (some (.long z13)) σ := by rw [qz13]; exact c_X0_basicWord l D cy ad σ v3 v5 z12.toInt32 (v2 >>> (20 &&& 31))
  refine eb_callS (n := 4) X hw hl.1 (rest := [.int v2, .ref (ad (19 + v1))]) hc (eb_goodS wi_17_8 wi_17_9 wi_16_18 wi_17_10) rfl (by decide +kernel) ⟨by decide, by decide⟩ rfl rfl (Nat.le_of_ble_eq_true rfl) dX3_withImmediateWord_87 ⟨by decide, by decide⟩ (st' := [.long z13, .int v2, .ref (ad (19 + v1))]) rfl (fun H locs hw => ?_)
  obtain ⟨z14, qz14⟩ : ∃ t : Int32 × eb_St, t = m_X3_finish σ v1 v2 z13 := ⟨_, rfl⟩
  have hm : (z14.1, z14.2) = mm := by rw [qz14]; exact hm
  have hc : eb_M l yX3_finish (Cond.code yX3_finish cX3_finish 4 (some .int) :: wsL_law) 1 23 D 33 cy cL ad σ [.ref (ad (19 + v1)), .int v2, .long z13] (some (.int z14.1)) z14.2 := by rw [qz14]; exact c_X3_finish l D cy ad σ v1 v2 z13 (by omega)
  refine eb_callS (n := 3) X hw hl.1 (rest := []) hc (eb_goodS wi_16_8 wi_16_9 wi_2_11 wi_16_10) rfl (by decide +kernel) ⟨by decide, by decide⟩ rfl rfl (Nat.le_of_ble_eq_true rfl) dX3_withImmediateWord_90 ⟨by decide, by decide⟩ (st' := [.int z14.1]) rfl (fun H locs hw => ?_)
  subst hm
  exact eb_iret X hw rfl rfl rfl dX3_withImmediateWord_93
set_option maxHeartbeats 4000000 in
set_option maxRecDepth 100000 in
theorem k_X3_withImmediateWord_55 {p : Program} {l : Launch} {e : Env} {s : State} {m : MethodId} {args : Array Value} {below : List Frame} {meth : Method} {c : Code} {A : Nat → Prop} {H : Heap} {locs : List Loc} {ls : Array Slot} {D : va_G} {cy : Nat → ClassId} {ad : Nat → Nat} (X : eb_X p s m args meth c cX3_withImmediateWord 7 RX3 (Cond.code yX3_withImmediateWord cX3_withImmediateWord 7 (some .int) :: wsL_law) (some .int) D cy A)   (σ : eb_St) (v1 : Nat) (v2 : Int32) (v3 : Int32) (v5 : Int32) (s0 : Int32) (bv1 : v1 < 7) {mm : Int32 × eb_St} (hm : (m_X3_withImmediateWord_55  σ v1 v2 v3 v5 s0) = mm) (hw : eb_H D 33 cy cL ad A s.heap σ H locs) (hl : lv_has ls 7 [(0, .ref (ad 9)), (1, .ref (ad (19 + v1))), (2, .int v2), (3, .int v3), (5, .int v5)]) : W p l e ({ frames := 2, cells := 0, slots := 0, locals := 46 } : Room) s m args below meth c H locs 0 0 (MQ below (eb_Q D 33 cy cL ad A (some (.int mm.1)) mm.2) args s 0 0 A) (F0 m 55 ls [.int s0]) := by
  have hx := X.1.1
  have hb := X.1.2.1
  have hown := X.1.2.2.2.1
  have hts := X.1.2.2.2.2
  have hm : (if v3 = 0 then m_X3_withImmediateWord_72  σ v1 v2 v3 v5 else (if s0 = 0 then (fun (z11 : Int32 × eb_St) => (z11.1, z11.2)) (m_X3_illegal σ v2) else m_X3_withImmediateWord_72  σ v1 v2 v3 v5)) = mm := hm
  refine lv_istore (lv' := [(6, .int s0), (0, .ref (ad 9)), (1, .ref (ad (19 + v1))), (2, .int v2), (3, .int v3), (5, .int v5)]) hx hb dX3_withImmediateWord_55 hl (by decide) rfl (fun ls hl => ?_)
  refine lv_iload_n hx hb dX3_withImmediateWord_57 rfl (lv_at hl 4 rfl) ?_
  refine lv_if_eq (tgt := 72) hx hb dX3_withImmediateWord_58 (by decide) (fun h9 => ?_) (fun h9 => ?_)
  · have hm := (if_pos h9).symm.trans hm
    exact k_X3_withImmediateWord_72 X   σ v1 v2 v3 v5 (by omega) hm hw (lv_sub hl [2, 3, 4, 5] rfl)
  · have hm := (if_neg h9).symm.trans hm
    refine lv_iload hx hb dX3_withImmediateWord_61 (lv_at hl 0 rfl) ?_
    refine lv_if_ne (tgt := 72) hx hb dX3_withImmediateWord_63 (by decide) (fun h10 => ?_) (fun h10 => ?_)
    · have hm := (if_neg h10).symm.trans hm
      exact k_X3_withImmediateWord_72 X   σ v1 v2 v3 v5 (by omega) hm hw (lv_sub hl [2, 3, 4, 5] rfl)
    · have hm := (if_pos h10).symm.trans hm
      refine lv_aload_n hx hb dX3_withImmediateWord_66 rfl (lv_at hl 1 rfl) ?_
      refine lv_iload_n hx hb dX3_withImmediateWord_67 rfl (lv_at hl 3 rfl) ?_
      obtain ⟨z11, qz11⟩ : ∃ t : Int32 × eb_St, t = m_X3_illegal σ v2 := ⟨_, rfl⟩
      have hm : (z11.1, z11.2) = mm := by rw [qz11]; exact hm
      have hc : eb_M l yX3_illegal (Cond.code yX3_illegal cX3_illegal 2 (some .int) :: wsL_law) 1 23 D 33 cy cL ad σ [.ref (ad 9), .int v2] (some (.int z11.1)) z11.2 := by rw [qz11]; exact c_X3_illegal l D cy ad σ v2
      refine eb_callV (n := 1) (as := [.int v2]) (rest := []) X hw hl.1 9 hc (by decide) ⟨rfl, rfl, rfl⟩ (eb_goodV wi_15_20 wi_15_21 wi_15_22 wi_2_11 wi_15_23) rfl (by decide +kernel) ⟨by decide, by decide⟩ rfl rfl (Nat.le_of_ble_eq_true rfl) dX3_withImmediateWord_68 ⟨by decide, by decide⟩ (st' := [.int z11.1]) rfl (fun H locs hw => ?_)
      subst hm
      exact eb_iret X hw rfl rfl rfl dX3_withImmediateWord_71
set_option maxHeartbeats 4000000 in
set_option maxRecDepth 100000 in
theorem k_X3_withImmediateWord_50 {p : Program} {l : Launch} {e : Env} {s : State} {m : MethodId} {args : Array Value} {below : List Frame} {meth : Method} {c : Code} {A : Nat → Prop} {H : Heap} {locs : List Loc} {ls : Array Slot} {D : va_G} {cy : Nat → ClassId} {ad : Nat → Nat} (X : eb_X p s m args meth c cX3_withImmediateWord 7 RX3 (Cond.code yX3_withImmediateWord cX3_withImmediateWord 7 (some .int) :: wsL_law) (some .int) D cy A)   (σ : eb_St) (v1 : Nat) (v2 : Int32) (v3 : Int32) (v5 : Int32) (bv1 : v1 < 7) {mm : Int32 × eb_St} (hm : (m_X3_withImmediateWord_50  σ v1 v2 v3 v5) = mm) (hw : eb_H D 33 cy cL ad A s.heap σ H locs) (hl : lv_has ls 7 [(0, .ref (ad 9)), (1, .ref (ad (19 + v1))), (2, .int v2), (3, .int v3), (5, .int v5)]) : W p l e ({ frames := 2, cells := 0, slots := 0, locals := 46 } : Room) s m args below meth c H locs 0 0 (MQ below (eb_Q D 33 cy cL ad A (some (.int mm.1)) mm.2) args s 0 0 A) (F0 m 50 ls []) := by
  have hx := X.1.1
  have hb := X.1.2.1
  have hown := X.1.2.2.2.1
  have hts := X.1.2.2.2.2
  have hm : m_X3_withImmediateWord_55  σ v1 v2 v3 v5 1 = mm := hm
  refine lv_iconst (v := 1) hx hb dX3_withImmediateWord_50 (by decide) ?_
  refine lv_goto (tgt := 55) hx hb dX3_withImmediateWord_51 (by decide) ?_
  exact k_X3_withImmediateWord_55 X   σ v1 v2 v3 v5 1 (by omega) hm hw (lv_sub hl [0, 1, 2, 3, 4] rfl)
set_option maxHeartbeats 4000000 in
set_option maxRecDepth 100000 in
theorem k_X3_withImmediateWord_54 {p : Program} {l : Launch} {e : Env} {s : State} {m : MethodId} {args : Array Value} {below : List Frame} {meth : Method} {c : Code} {A : Nat → Prop} {H : Heap} {locs : List Loc} {ls : Array Slot} {D : va_G} {cy : Nat → ClassId} {ad : Nat → Nat} (X : eb_X p s m args meth c cX3_withImmediateWord 7 RX3 (Cond.code yX3_withImmediateWord cX3_withImmediateWord 7 (some .int) :: wsL_law) (some .int) D cy A)   (σ : eb_St) (v1 : Nat) (v2 : Int32) (v3 : Int32) (v5 : Int32) (bv1 : v1 < 7) {mm : Int32 × eb_St} (hm : (m_X3_withImmediateWord_54  σ v1 v2 v3 v5) = mm) (hw : eb_H D 33 cy cL ad A s.heap σ H locs) (hl : lv_has ls 7 [(0, .ref (ad 9)), (1, .ref (ad (19 + v1))), (2, .int v2), (3, .int v3), (5, .int v5)]) : W p l e ({ frames := 2, cells := 0, slots := 0, locals := 46 } : Room) s m args below meth c H locs 0 0 (MQ below (eb_Q D 33 cy cL ad A (some (.int mm.1)) mm.2) args s 0 0 A) (F0 m 54 ls []) := by
  have hx := X.1.1
  have hb := X.1.2.1
  have hown := X.1.2.2.2.1
  have hts := X.1.2.2.2.2
  have hm : m_X3_withImmediateWord_55  σ v1 v2 v3 v5 0 = mm := hm
  refine lv_iconst (v := 0) hx hb dX3_withImmediateWord_54 (by decide) ?_
  exact k_X3_withImmediateWord_55 X   σ v1 v2 v3 v5 0 (by omega) hm hw (lv_sub hl [0, 1, 2, 3, 4] rfl)
set_option maxHeartbeats 4000000 in
set_option maxRecDepth 100000 in
theorem k_X3_withImmediateWord_40 {p : Program} {l : Launch} {e : Env} {s : State} {m : MethodId} {args : Array Value} {below : List Frame} {meth : Method} {c : Code} {A : Nat → Prop} {H : Heap} {locs : List Loc} {ls : Array Slot} {D : va_G} {cy : Nat → ClassId} {ad : Nat → Nat} (X : eb_X p s m args meth c cX3_withImmediateWord 7 RX3 (Cond.code yX3_withImmediateWord cX3_withImmediateWord 7 (some .int) :: wsL_law) (some .int) D cy A)   (σ : eb_St) (v1 : Nat) (v2 : Int32) (v3 : Int32) (v4 : Int32) (v5 : Int32) (bv1 : v1 < 7) {mm : Int32 × eb_St} (hm : (m_X3_withImmediateWord_40  σ v1 v2 v3 v4 v5) = mm) (hw : eb_H D 33 cy cL ad A s.heap σ H locs) (hl : lv_has ls 7 [(0, .ref (ad 9)), (1, .ref (ad (19 + v1))), (2, .int v2), (3, .int v3), (4, .int v4), (5, .int v5)]) : W p l e ({ frames := 2, cells := 0, slots := 0, locals := 46 } : Room) s m args below meth c H locs 0 0 (MQ below (eb_Q D 33 cy cL ad A (some (.int mm.1)) mm.2) args s 0 0 A) (F0 m 40 ls []) := by
  have hx := X.1.1
  have hb := X.1.2.1
  have hown := X.1.2.2.2.1
  have hts := X.1.2.2.2.2
  have hm : (if v4 = 0 then m_X3_withImmediateWord_50  σ v1 v2 v3 v5 else (if v5 = 0 then m_X3_withImmediateWord_54  σ v1 v2 v3 v5 else m_X3_withImmediateWord_50  σ v1 v2 v3 v5)) = mm := hm
  refine lv_iload hx hb dX3_withImmediateWord_40 (lv_at hl 4 rfl) ?_
  refine lv_if_eq (tgt := 50) hx hb dX3_withImmediateWord_42 (by decide) (fun h7 => ?_) (fun h7 => ?_)
  · have hm := (if_pos h7).symm.trans hm
    exact k_X3_withImmediateWord_50 X   σ v1 v2 v3 v5 (by omega) hm hw (lv_sub hl [0, 1, 2, 3, 5] rfl)
  · have hm := (if_neg h7).symm.trans hm
    refine lv_iload hx hb dX3_withImmediateWord_45 (lv_at hl 5 rfl) ?_
    refine lv_if_eq (tgt := 54) hx hb dX3_withImmediateWord_47 (by decide) (fun h8 => ?_) (fun h8 => ?_)
    · have hm := (if_pos h8).symm.trans hm
      exact k_X3_withImmediateWord_54 X   σ v1 v2 v3 v5 (by omega) hm hw (lv_sub hl [0, 1, 2, 3, 5] rfl)
    · have hm := (if_neg h8).symm.trans hm
      exact k_X3_withImmediateWord_50 X   σ v1 v2 v3 v5 (by omega) hm hw (lv_sub hl [0, 1, 2, 3, 5] rfl)
set_option maxHeartbeats 4000000 in
set_option maxRecDepth 100000 in
theorem k_X3_withImmediateWord_28 {p : Program} {l : Launch} {e : Env} {s : State} {m : MethodId} {args : Array Value} {below : List Frame} {meth : Method} {c : Code} {A : Nat → Prop} {H : Heap} {locs : List Loc} {ls : Array Slot} {D : va_G} {cy : Nat → ClassId} {ad : Nat → Nat} (X : eb_X p s m args meth c cX3_withImmediateWord 7 RX3 (Cond.code yX3_withImmediateWord cX3_withImmediateWord 7 (some .int) :: wsL_law) (some .int) D cy A)   (σ : eb_St) (v1 : Nat) (v2 : Int32) (v3 : Int32) (v4 : Int32) (s0 : Int32) (bv1 : v1 < 7) {mm : Int32 × eb_St} (hm : (m_X3_withImmediateWord_28  σ v1 v2 v3 v4 s0) = mm) (hw : eb_H D 33 cy cL ad A s.heap σ H locs) (hl : lv_has ls 7 [(0, .ref (ad 9)), (1, .ref (ad (19 + v1))), (2, .int v2), (3, .int v3), (4, .int v4)]) : W p l e ({ frames := 2, cells := 0, slots := 0, locals := 46 } : Room) s m args below meth c H locs 0 0 (MQ below (eb_Q D 33 cy cL ad A (some (.int mm.1)) mm.2) args s 0 0 A) (F0 m 28 ls [.int s0]) := by
  have hx := X.1.1
  have hb := X.1.2.1
  have hown := X.1.2.2.2.1
  have hts := X.1.2.2.2.2
  have hm : (if v3 = 1 then m_X3_withImmediateWord_40  σ v1 v2 v3 v4 s0 else (if v3 = 5 then m_X3_withImmediateWord_40  σ v1 v2 v3 v4 s0 else m_X3_withImmediateWord_54  σ v1 v2 v3 s0)) = mm := hm
  refine lv_istore (lv' := [(5, .int s0), (0, .ref (ad 9)), (1, .ref (ad (19 + v1))), (2, .int v2), (3, .int v3), (4, .int v4)]) hx hb dX3_withImmediateWord_28 hl (by decide) rfl (fun ls hl => ?_)
  refine lv_iload_n hx hb dX3_withImmediateWord_30 rfl (lv_at hl 4 rfl) ?_
  refine lv_iconst (v := 1) hx hb dX3_withImmediateWord_31 (by decide) ?_
  refine lv_icmp_eq (tgt := 40) hx hb dX3_withImmediateWord_32 (by decide) (fun h5 => ?_) (fun h5 => ?_)
  · have hm := (if_pos h5).symm.trans hm
    exact k_X3_withImmediateWord_40 X   σ v1 v2 v3 v4 s0 (by omega) hm hw (lv_sub hl [1, 2, 3, 4, 5, 0] rfl)
  · have hm := (if_neg h5).symm.trans hm
    refine lv_iload_n hx hb dX3_withImmediateWord_35 rfl (lv_at hl 4 rfl) ?_
    refine lv_iconst (v := 5) hx hb dX3_withImmediateWord_36 (by decide) ?_
    refine lv_icmp_ne (tgt := 54) hx hb dX3_withImmediateWord_37 (by decide) (fun h6 => ?_) (fun h6 => ?_)
    · have hm := (if_neg h6).symm.trans hm
      exact k_X3_withImmediateWord_54 X   σ v1 v2 v3 s0 (by omega) hm hw (lv_sub hl [1, 2, 3, 4, 0] rfl)
    · have hm := (if_pos h6).symm.trans hm
      exact k_X3_withImmediateWord_40 X   σ v1 v2 v3 v4 s0 (by omega) hm hw (lv_sub hl [1, 2, 3, 4, 5, 0] rfl)
set_option maxHeartbeats 4000000 in
set_option maxRecDepth 100000 in
theorem k_X3_withImmediateWord_27 {p : Program} {l : Launch} {e : Env} {s : State} {m : MethodId} {args : Array Value} {below : List Frame} {meth : Method} {c : Code} {A : Nat → Prop} {H : Heap} {locs : List Loc} {ls : Array Slot} {D : va_G} {cy : Nat → ClassId} {ad : Nat → Nat} (X : eb_X p s m args meth c cX3_withImmediateWord 7 RX3 (Cond.code yX3_withImmediateWord cX3_withImmediateWord 7 (some .int) :: wsL_law) (some .int) D cy A)   (σ : eb_St) (v1 : Nat) (v2 : Int32) (v3 : Int32) (v4 : Int32) (bv1 : v1 < 7) {mm : Int32 × eb_St} (hm : (m_X3_withImmediateWord_27  σ v1 v2 v3 v4) = mm) (hw : eb_H D 33 cy cL ad A s.heap σ H locs) (hl : lv_has ls 7 [(0, .ref (ad 9)), (1, .ref (ad (19 + v1))), (2, .int v2), (3, .int v3), (4, .int v4)]) : W p l e ({ frames := 2, cells := 0, slots := 0, locals := 46 } : Room) s m args below meth c H locs 0 0 (MQ below (eb_Q D 33 cy cL ad A (some (.int mm.1)) mm.2) args s 0 0 A) (F0 m 27 ls []) := by
  have hx := X.1.1
  have hb := X.1.2.1
  have hown := X.1.2.2.2.1
  have hts := X.1.2.2.2.2
  have hm : m_X3_withImmediateWord_28  σ v1 v2 v3 v4 0 = mm := hm
  refine lv_iconst (v := 0) hx hb dX3_withImmediateWord_27 (by decide) ?_
  exact k_X3_withImmediateWord_28 X   σ v1 v2 v3 v4 0 (by omega) hm hw (lv_sub hl [0, 1, 2, 3, 4] rfl)
set_option maxHeartbeats 4000000 in
set_option maxRecDepth 100000 in
theorem c_X3_withImmediateWord (l : Launch) (D : va_G) (cy : Nat → ClassId) (ad : Nat → Nat) (σ : eb_St) (a0 : Nat) (a1 : Int32) (ba0 : a0 < 7) : eb_M l yX3_withImmediateWord (Cond.code yX3_withImmediateWord cX3_withImmediateWord 7 (some .int) :: wsL_law) 2 46 D 33 cy cL ad σ [.ref (ad 9), .ref (ad (19 + a0)), .int a1] (some (.int (m_X3_withImmediateWord σ a0 a1).1)) ((m_X3_withImmediateWord σ a0 a1).2) := by
  refine eb_start (own := RX3) (by decide) rfl rfl (Nat.le_of_ble_eq_true rfl) ?_
  intro p e s m args below meth c A ls X hw hl
  have hl : lv_has ls 7 [(0, .ref (ad 9)), (1, .ref (ad (19 + a0))), (2, .int a1)] := hl
  have hx := X.1.1
  have hb := X.1.2.1
  have hown := X.1.2.2.2.1
  have hts := X.1.2.2.2.2
  generalize hm : m_X3_withImmediateWord σ a0 a1 = mm
  have hm : (fun (z1 : Int32) => (fun (x2 : Int32) => (if z1 = 5 then (if x2 = 32 then m_X3_withImmediateWord_28  σ a0 a1 z1 x2 1 else m_X3_withImmediateWord_27  σ a0 a1 z1 x2) else m_X3_withImmediateWord_27  σ a0 a1 z1 x2)) (eb_iushr a1 25)) (m_X3_kind a1) = mm := hm
  refine lv_iload_n hx hb dX3_withImmediateWord_0 rfl (lv_at hl 2 rfl) ?_
  obtain ⟨z1, qz1⟩ : ∃ t : Int32, t = m_X3_kind a1 := ⟨_, rfl⟩
  have hm : (fun (x2 : Int32) => (if z1 = 5 then (if x2 = 32 then m_X3_withImmediateWord_28  σ a0 a1 z1 x2 1 else m_X3_withImmediateWord_27  σ a0 a1 z1 x2) else m_X3_withImmediateWord_27  σ a0 a1 z1 x2)) (eb_iushr a1 25) = mm := by rw [qz1]; exact hm
  have hc : eb_M l yX3_kind (Cond.code yX3_kind cX3_kind 1 (some .int) :: wsL_law) 0 0 D 33 cy cL ad σ [.int a1] (some (.int z1)) σ := by rw [qz1]; exact c_X3_kind l D cy ad σ a1
  refine eb_callS (n := 1) X hw hl.1 (rest := []) hc (eb_goodS wi_15_17 wi_15_18 wi_2_11 wi_15_19) rfl (by decide +kernel) ⟨by decide, by decide⟩ rfl rfl (Nat.le_of_ble_eq_true rfl) dX3_withImmediateWord_1 ⟨by decide, by decide⟩ (st' := [.int z1]) rfl (fun H locs hw => ?_)
  refine lv_istore_n (lv' := [(3, .int z1), (0, .ref (ad 9)), (1, .ref (ad (19 + a0))), (2, .int a1)]) hx hb dX3_withImmediateWord_4 rfl hl (by decide) rfl (fun ls hl => ?_)
  refine lv_iload_n hx hb dX3_withImmediateWord_5 rfl (lv_at hl 3 rfl) ?_
  refine lv_bipush (v := 25) hx hb dX3_withImmediateWord_6 (by decide) ?_
  refine lv_iushr (v := eb_iushr a1 25) hx hb dX3_withImmediateWord_8 rfl ?_
  refine lv_topi (fun x2 ex2 => ?_)
  have hm : (if z1 = 5 then (if x2 = 32 then m_X3_withImmediateWord_28  σ a0 a1 z1 x2 1 else m_X3_withImmediateWord_27  σ a0 a1 z1 x2) else m_X3_withImmediateWord_27  σ a0 a1 z1 x2) = mm := by rw [ex2]; exact hm
  refine lv_istore (lv' := [(4, .int x2), (3, .int z1), (0, .ref (ad 9)), (1, .ref (ad (19 + a0))), (2, .int a1)]) hx hb dX3_withImmediateWord_9 hl (by decide) rfl (fun ls hl => ?_)
  refine lv_iload_n hx hb dX3_withImmediateWord_11 rfl (lv_at hl 1 rfl) ?_
  refine lv_iconst (v := 5) hx hb dX3_withImmediateWord_12 (by decide) ?_
  refine lv_icmp_ne (tgt := 27) hx hb dX3_withImmediateWord_13 (by decide) (fun h3 => ?_) (fun h3 => ?_)
  · have hm := (if_neg h3).symm.trans hm
    exact k_X3_withImmediateWord_27 X   σ a0 a1 z1 x2 (by omega) hm hw (lv_sub hl [2, 3, 4, 1, 0] rfl)
  · have hm := (if_pos h3).symm.trans hm
    refine lv_iload hx hb dX3_withImmediateWord_16 (lv_at hl 0 rfl) ?_
    refine lv_bipush (v := 32) hx hb dX3_withImmediateWord_18 (by decide) ?_
    refine lv_icmp_ne (tgt := 27) hx hb dX3_withImmediateWord_20 (by decide) (fun h4 => ?_) (fun h4 => ?_)
    · have hm := (if_neg h4).symm.trans hm
      exact k_X3_withImmediateWord_27 X   σ a0 a1 z1 x2 (by omega) hm hw (lv_sub hl [2, 3, 4, 1, 0] rfl)
    · have hm := (if_pos h4).symm.trans hm
      refine lv_iconst (v := 1) hx hb dX3_withImmediateWord_23 (by decide) ?_
      refine lv_goto (tgt := 28) hx hb dX3_withImmediateWord_24 (by decide) ?_
      exact k_X3_withImmediateWord_28 X   σ a0 a1 z1 x2 1 (by omega) hm hw (lv_sub hl [2, 3, 4, 1, 0] rfl)

set_option maxHeartbeats 4000000 in
set_option maxRecDepth 100000 in
theorem k_X3_withRegister_100 {p : Program} {l : Launch} {e : Env} {s : State} {m : MethodId} {args : Array Value} {below : List Frame} {meth : Method} {c : Code} {A : Nat → Prop} {H : Heap} {locs : List Loc} {ls : Array Slot} {D : va_G} {cy : Nat → ClassId} {ad : Nat → Nat} (X : eb_X p s m args meth c cX3_withRegister 10 RX3 (Cond.code yX3_withRegister cX3_withRegister 10 (some .int) :: wsL_law) (some .int) D cy A)   (σ : eb_St) (v1 : Nat) (v2 : Int32) (v3 : Int32) (v5 : Int64) (v7 : Int64) (v9 : Int32) (bv1 : v1 < 7) {mm : Int32 × eb_St} (hm : (m_X3_withRegister_100  σ v1 v2 v3 v5 v7 v9) = mm) (hw : eb_H D 33 cy cL ad A s.heap σ H locs) (hl : lv_has ls 10 [(1, .ref (ad (19 + v1))), (2, .int v2), (3, .int v3), (5, .long v5), (7, .long v7), (9, .int v9)]) : W p l e ({ frames := 4, cells := 0, slots := 0, locals := 97 } : Room) s m args below meth c H locs 0 0 (MQ below (eb_Q D 33 cy cL ad A (some (.int mm.1)) mm.2) args s 0 0 A) (F0 m 100 ls []) := by
  have hx := X.1.1
  have hb := X.1.2.1
  have hown := X.1.2.2.2.1
  have hts := X.1.2.2.2.2
  have hm : (fun (z17 : Int64) => (fun (z18 : Int32 × eb_St) => (z18.1, z18.2)) (m_X3_finish σ v1 v2 z17)) (m_X0_basic v3 v9 v5 v7) = mm := hm
  refine lv_aload_n hx hb dX3_withRegister_100 rfl (lv_at hl 0 rfl) ?_
  refine lv_iload_n hx hb dX3_withRegister_101 rfl (lv_at hl 1 rfl) ?_
  refine lv_iload_n hx hb dX3_withRegister_102 rfl (lv_at hl 2 rfl) ?_
  refine lv_iload hx hb dX3_withRegister_103 (lv_at hl 5 rfl) ?_
  refine lv_lload hx hb dX3_withRegister_105 (lv_at hl 3 rfl) ?_
  refine lv_lload hx hb dX3_withRegister_107 (lv_at hl 4 rfl) ?_
  obtain ⟨z17, qz17⟩ : ∃ t : Int64, t = m_X0_basic v3 v9 v5 v7 := ⟨_, rfl⟩
  have hm : (fun (z18 : Int32 × eb_St) => (z18.1, z18.2)) (m_X3_finish σ v1 v2 z17) = mm := by rw [qz17]; exact hm
  have hc : eb_M l yX0_basic (Cond.code yX0_basic cX0_basic 7 (some .long) :: wsL_law) 2 46 D 33 cy cL ad σ [.int v3, .int v9, .long v5, .long v7] (some (.long z17)) σ := by rw [qz17]; exact c_X0_basic l D cy ad σ v3 v9 v5 v7
  refine eb_callS (n := 4) X hw hl.1 (rest := [.int v2, .ref (ad (19 + v1))]) hc (eb_goodS wi_16_16 wi_16_17 wi_16_18 wi_16_19) rfl (by decide +kernel) ⟨by decide, by decide⟩ rfl rfl (Nat.le_of_ble_eq_true rfl) dX3_withRegister_109 ⟨by decide, by decide⟩ (st' := [.long z17, .int v2, .ref (ad (19 + v1))]) rfl (fun H locs hw => ?_)
  obtain ⟨z18, qz18⟩ : ∃ t : Int32 × eb_St, t = m_X3_finish σ v1 v2 z17 := ⟨_, rfl⟩
  have hm : (z18.1, z18.2) = mm := by rw [qz18]; exact hm
  have hc : eb_M l yX3_finish (Cond.code yX3_finish cX3_finish 4 (some .int) :: wsL_law) 1 23 D 33 cy cL ad σ [.ref (ad (19 + v1)), .int v2, .long z17] (some (.int z18.1)) z18.2 := by rw [qz18]; exact c_X3_finish l D cy ad σ v1 v2 z17 (by omega)
  refine eb_callS (n := 3) X hw hl.1 (rest := []) hc (eb_goodS wi_16_8 wi_16_9 wi_2_11 wi_16_10) rfl (by decide +kernel) ⟨by decide, by decide⟩ rfl rfl (Nat.le_of_ble_eq_true rfl) dX3_withRegister_112 ⟨by decide, by decide⟩ (st' := [.int z18.1]) rfl (fun H locs hw => ?_)
  subst hm
  exact eb_iret X hw rfl rfl rfl dX3_withRegister_115
set_option maxHeartbeats 4000000 in
set_option maxRecDepth 100000 in
theorem k_X3_withRegister_82 {p : Program} {l : Launch} {e : Env} {s : State} {m : MethodId} {args : Array Value} {below : List Frame} {meth : Method} {c : Code} {A : Nat → Prop} {H : Heap} {locs : List Loc} {ls : Array Slot} {D : va_G} {cy : Nat → ClassId} {ad : Nat → Nat} (X : eb_X p s m args meth c cX3_withRegister 10 RX3 (Cond.code yX3_withRegister cX3_withRegister 10 (some .int) :: wsL_law) (some .int) D cy A)   (σ : eb_St) (v1 : Nat) (v2 : Int32) (v3 : Int32) (v4 : Int32) (v5 : Int64) (v7 : Int64) (s0 : Int32) (bv1 : v1 < 7) {mm : Int32 × eb_St} (hm : (m_X3_withRegister_82  σ v1 v2 v3 v4 v5 v7 s0) = mm) (hw : eb_H D 33 cy cL ad A s.heap σ H locs) (hl : lv_has ls 10 [(0, .ref (ad 9)), (1, .ref (ad (19 + v1))), (2, .int v2), (3, .int v3), (4, .int v4), (5, .long v5), (7, .long v7)]) : W p l e ({ frames := 4, cells := 0, slots := 0, locals := 97 } : Room) s m args below meth c H locs 0 0 (MQ below (eb_Q D 33 cy cL ad A (some (.int mm.1)) mm.2) args s 0 0 A) (F0 m 82 ls [.int s0]) := by
  have hx := X.1.1
  have hb := X.1.2.1
  have hown := X.1.2.2.2.1
  have hts := X.1.2.2.2.2
  have hm : (if v4 = 0 then m_X3_withRegister_100  σ v1 v2 v3 v5 v7 s0 else (if s0 = 0 then (fun (z16 : Int32 × eb_St) => (z16.1, z16.2)) (m_X3_illegal σ v2) else m_X3_withRegister_100  σ v1 v2 v3 v5 v7 s0)) = mm := hm
  refine lv_istore (lv' := [(9, .int s0), (0, .ref (ad 9)), (1, .ref (ad (19 + v1))), (2, .int v2), (3, .int v3), (4, .int v4), (5, .long v5), (7, .long v7)]) hx hb dX3_withRegister_82 hl (by decide) rfl (fun ls hl => ?_)
  refine lv_iload hx hb dX3_withRegister_84 (lv_at hl 5 rfl) ?_
  refine lv_if_eq (tgt := 100) hx hb dX3_withRegister_86 (by decide) (fun h14 => ?_) (fun h14 => ?_)
  · have hm := (if_pos h14).symm.trans hm
    exact k_X3_withRegister_100 X   σ v1 v2 v3 v5 v7 s0 (by omega) hm hw (lv_sub hl [2, 3, 4, 6, 7, 0] rfl)
  · have hm := (if_neg h14).symm.trans hm
    refine lv_iload hx hb dX3_withRegister_89 (lv_at hl 0 rfl) ?_
    refine lv_if_ne (tgt := 100) hx hb dX3_withRegister_91 (by decide) (fun h15 => ?_) (fun h15 => ?_)
    · have hm := (if_neg h15).symm.trans hm
      exact k_X3_withRegister_100 X   σ v1 v2 v3 v5 v7 s0 (by omega) hm hw (lv_sub hl [2, 3, 4, 6, 7, 0] rfl)
    · have hm := (if_pos h15).symm.trans hm
      refine lv_aload_n hx hb dX3_withRegister_94 rfl (lv_at hl 1 rfl) ?_
      refine lv_iload_n hx hb dX3_withRegister_95 rfl (lv_at hl 3 rfl) ?_
      obtain ⟨z16, qz16⟩ : ∃ t : Int32 × eb_St, t = m_X3_illegal σ v2 := ⟨_, rfl⟩
      have hm : (z16.1, z16.2) = mm := by rw [qz16]; exact hm
      have hc : eb_M l yX3_illegal (Cond.code yX3_illegal cX3_illegal 2 (some .int) :: wsL_law) 1 23 D 33 cy cL ad σ [.ref (ad 9), .int v2] (some (.int z16.1)) z16.2 := by rw [qz16]; exact c_X3_illegal l D cy ad σ v2
      refine eb_callV (n := 1) (as := [.int v2]) (rest := []) X hw hl.1 9 hc (by decide) ⟨rfl, rfl, rfl⟩ (eb_goodV wi_15_20 wi_15_21 wi_15_22 wi_2_11 wi_15_23) rfl (by decide +kernel) ⟨by decide, by decide⟩ rfl rfl (Nat.le_of_ble_eq_true rfl) dX3_withRegister_96 ⟨by decide, by decide⟩ (st' := [.int z16.1]) rfl (fun H locs hw => ?_)
      subst hm
      exact eb_iret X hw rfl rfl rfl dX3_withRegister_99
set_option maxHeartbeats 4000000 in
set_option maxRecDepth 100000 in
theorem k_X3_withRegister_77 {p : Program} {l : Launch} {e : Env} {s : State} {m : MethodId} {args : Array Value} {below : List Frame} {meth : Method} {c : Code} {A : Nat → Prop} {H : Heap} {locs : List Loc} {ls : Array Slot} {D : va_G} {cy : Nat → ClassId} {ad : Nat → Nat} (X : eb_X p s m args meth c cX3_withRegister 10 RX3 (Cond.code yX3_withRegister cX3_withRegister 10 (some .int) :: wsL_law) (some .int) D cy A)   (σ : eb_St) (v1 : Nat) (v2 : Int32) (v3 : Int32) (v4 : Int32) (v5 : Int64) (v7 : Int64) (bv1 : v1 < 7) {mm : Int32 × eb_St} (hm : (m_X3_withRegister_77  σ v1 v2 v3 v4 v5 v7) = mm) (hw : eb_H D 33 cy cL ad A s.heap σ H locs) (hl : lv_has ls 10 [(0, .ref (ad 9)), (1, .ref (ad (19 + v1))), (2, .int v2), (3, .int v3), (4, .int v4), (5, .long v5), (7, .long v7)]) : W p l e ({ frames := 4, cells := 0, slots := 0, locals := 97 } : Room) s m args below meth c H locs 0 0 (MQ below (eb_Q D 33 cy cL ad A (some (.int mm.1)) mm.2) args s 0 0 A) (F0 m 77 ls []) := by
  have hx := X.1.1
  have hb := X.1.2.1
  have hown := X.1.2.2.2.1
  have hts := X.1.2.2.2.2
  have hm : m_X3_withRegister_82  σ v1 v2 v3 v4 v5 v7 1 = mm := hm
  refine lv_iconst (v := 1) hx hb dX3_withRegister_77 (by decide) ?_
  refine lv_goto (tgt := 82) hx hb dX3_withRegister_78 (by decide) ?_
  exact k_X3_withRegister_82 X   σ v1 v2 v3 v4 v5 v7 1 (by omega) hm hw (lv_sub hl [0, 1, 2, 3, 4, 5, 6] rfl)
set_option maxHeartbeats 4000000 in
set_option maxRecDepth 100000 in
theorem k_X3_withRegister_81 {p : Program} {l : Launch} {e : Env} {s : State} {m : MethodId} {args : Array Value} {below : List Frame} {meth : Method} {c : Code} {A : Nat → Prop} {H : Heap} {locs : List Loc} {ls : Array Slot} {D : va_G} {cy : Nat → ClassId} {ad : Nat → Nat} (X : eb_X p s m args meth c cX3_withRegister 10 RX3 (Cond.code yX3_withRegister cX3_withRegister 10 (some .int) :: wsL_law) (some .int) D cy A)   (σ : eb_St) (v1 : Nat) (v2 : Int32) (v3 : Int32) (v4 : Int32) (v5 : Int64) (v7 : Int64) (bv1 : v1 < 7) {mm : Int32 × eb_St} (hm : (m_X3_withRegister_81  σ v1 v2 v3 v4 v5 v7) = mm) (hw : eb_H D 33 cy cL ad A s.heap σ H locs) (hl : lv_has ls 10 [(0, .ref (ad 9)), (1, .ref (ad (19 + v1))), (2, .int v2), (3, .int v3), (4, .int v4), (5, .long v5), (7, .long v7)]) : W p l e ({ frames := 4, cells := 0, slots := 0, locals := 97 } : Room) s m args below meth c H locs 0 0 (MQ below (eb_Q D 33 cy cL ad A (some (.int mm.1)) mm.2) args s 0 0 A) (F0 m 81 ls []) := by
  have hx := X.1.1
  have hb := X.1.2.1
  have hown := X.1.2.2.2.1
  have hts := X.1.2.2.2.2
  have hm : m_X3_withRegister_82  σ v1 v2 v3 v4 v5 v7 0 = mm := hm
  refine lv_iconst (v := 0) hx hb dX3_withRegister_81 (by decide) ?_
  exact k_X3_withRegister_82 X   σ v1 v2 v3 v4 v5 v7 0 (by omega) hm hw (lv_sub hl [0, 1, 2, 3, 4, 5, 6] rfl)
set_option maxHeartbeats 4000000 in
set_option maxRecDepth 100000 in
theorem c_X3_withRegister (l : Launch) (D : va_G) (cy : Nat → ClassId) (ad : Nat → Nat) (σ : eb_St) (a0 : Nat) (a1 : Int32) (ba0 : a0 < 7) : eb_M l yX3_withRegister (Cond.code yX3_withRegister cX3_withRegister 10 (some .int) :: wsL_law) 4 97 D 33 cy cL ad σ [.ref (ad 9), .ref (ad (19 + a0)), .int a1] (some (.int (m_X3_withRegister σ a0 a1).1)) ((m_X3_withRegister σ a0 a1).2) := by
  refine eb_start (own := RX3) (by decide) rfl rfl (Nat.le_of_ble_eq_true rfl) ?_
  intro p e s m args below meth c A ls X hw hl
  have hl : lv_has ls 10 [(0, .ref (ad 9)), (1, .ref (ad (19 + a0))), (2, .int a1)] := hl
  have hx := X.1.1
  have hb := X.1.2.1
  have hown := X.1.2.2.2.1
  have hts := X.1.2.2.2.2
  generalize hm : m_X3_withRegister σ a0 a1 = mm
  have hm : (fun (z1 : Int32) => (fun (x2 : Int32) => (fun (z3 : Int64) => (fun (z4 : Int64) => (if x2 = 1 then (if (4 : Int32) ≤ z1 then (fun (z10 : Int64) => (fun (z11 : Int32 × eb_St) => (z11.1, z11.2)) (m_X3_finish σ a0 a1 z10)) (m_X0_divided z1 z3 z4) else (fun (z12 : Int64) => (fun (z13 : Int32 × eb_St) => (z13.1, z13.2)) (m_X3_finish σ a0 a1 z12)) (m_X0_multiplied z1 z3 z4)) else (if x2 = 32 then (if z1 = 0 then m_X3_withRegister_77  σ a0 a1 z1 x2 z3 z4 else (if z1 = 5 then m_X3_withRegister_77  σ a0 a1 z1 x2 z3 z4 else m_X3_withRegister_81  σ a0 a1 z1 x2 z3 z4)) else m_X3_withRegister_81  σ a0 a1 z1 x2 z3 z4))) (m_X3_second σ a0 a1)) (m_X3_first σ a0 a1)) (eb_iushr a1 25)) (m_X3_kind a1) = mm := hm
  refine lv_iload_n hx hb dX3_withRegister_0 rfl (lv_at hl 2 rfl) ?_
  obtain ⟨z1, qz1⟩ : ∃ t : Int32, t = m_X3_kind a1 := ⟨_, rfl⟩
  have hm : (fun (x2 : Int32) => (fun (z3 : Int64) => (fun (z4 : Int64) => (if x2 = 1 then (if (4 : Int32) ≤ z1 then (fun (z10 : Int64) => (fun (z11 : Int32 × eb_St) => (z11.1, z11.2)) (m_X3_finish σ a0 a1 z10)) (m_X0_divided z1 z3 z4) else (fun (z12 : Int64) => (fun (z13 : Int32 × eb_St) => (z13.1, z13.2)) (m_X3_finish σ a0 a1 z12)) (m_X0_multiplied z1 z3 z4)) else (if x2 = 32 then (if z1 = 0 then m_X3_withRegister_77  σ a0 a1 z1 x2 z3 z4 else (if z1 = 5 then m_X3_withRegister_77  σ a0 a1 z1 x2 z3 z4 else m_X3_withRegister_81  σ a0 a1 z1 x2 z3 z4)) else m_X3_withRegister_81  σ a0 a1 z1 x2 z3 z4))) (m_X3_second σ a0 a1)) (m_X3_first σ a0 a1)) (eb_iushr a1 25) = mm := by rw [qz1]; exact hm
  have hc : eb_M l yX3_kind (Cond.code yX3_kind cX3_kind 1 (some .int) :: wsL_law) 0 0 D 33 cy cL ad σ [.int a1] (some (.int z1)) σ := by rw [qz1]; exact c_X3_kind l D cy ad σ a1
  refine eb_callS (n := 1) X hw hl.1 (rest := []) hc (eb_goodS wi_15_17 wi_15_18 wi_2_11 wi_15_19) rfl (by decide +kernel) ⟨by decide, by decide⟩ rfl rfl (Nat.le_of_ble_eq_true rfl) dX3_withRegister_1 ⟨by decide, by decide⟩ (st' := [.int z1]) rfl (fun H locs hw => ?_)
  refine lv_istore_n (lv' := [(3, .int z1), (0, .ref (ad 9)), (1, .ref (ad (19 + a0))), (2, .int a1)]) hx hb dX3_withRegister_4 rfl hl (by decide) rfl (fun ls hl => ?_)
  refine lv_iload_n hx hb dX3_withRegister_5 rfl (lv_at hl 3 rfl) ?_
  refine lv_bipush (v := 25) hx hb dX3_withRegister_6 (by decide) ?_
  refine lv_iushr (v := eb_iushr a1 25) hx hb dX3_withRegister_8 rfl ?_
  refine lv_topi (fun x2 ex2 => ?_)
  have hm : (fun (z3 : Int64) => (fun (z4 : Int64) => (if x2 = 1 then (if (4 : Int32) ≤ z1 then (fun (z10 : Int64) => (fun (z11 : Int32 × eb_St) => (z11.1, z11.2)) (m_X3_finish σ a0 a1 z10)) (m_X0_divided z1 z3 z4) else (fun (z12 : Int64) => (fun (z13 : Int32 × eb_St) => (z13.1, z13.2)) (m_X3_finish σ a0 a1 z12)) (m_X0_multiplied z1 z3 z4)) else (if x2 = 32 then (if z1 = 0 then m_X3_withRegister_77  σ a0 a1 z1 x2 z3 z4 else (if z1 = 5 then m_X3_withRegister_77  σ a0 a1 z1 x2 z3 z4 else m_X3_withRegister_81  σ a0 a1 z1 x2 z3 z4)) else m_X3_withRegister_81  σ a0 a1 z1 x2 z3 z4))) (m_X3_second σ a0 a1)) (m_X3_first σ a0 a1) = mm := by rw [ex2]; exact hm
  refine lv_istore (lv' := [(4, .int x2), (3, .int z1), (0, .ref (ad 9)), (1, .ref (ad (19 + a0))), (2, .int a1)]) hx hb dX3_withRegister_9 hl (by decide) rfl (fun ls hl => ?_)
  refine lv_aload_n hx hb dX3_withRegister_11 rfl (lv_at hl 3 rfl) ?_
  refine lv_iload_n hx hb dX3_withRegister_12 rfl (lv_at hl 4 rfl) ?_
  obtain ⟨z3, qz3⟩ : ∃ t : Int64, t = m_X3_first σ a0 a1 := ⟨_, rfl⟩
  have hm : (fun (z4 : Int64) => (if x2 = 1 then (if (4 : Int32) ≤ z1 then (fun (z10 : Int64) => (fun (z11 : Int32 × eb_St) => (z11.1, z11.2)) (m_X3_finish σ a0 a1 z10)) (m_X0_divided z1 z3 z4) else (fun (z12 : Int64) => (fun (z13 : Int32 × eb_St) => (z13.1, z13.2)) (m_X3_finish σ a0 a1 z12)) (m_X0_multiplied z1 z3 z4)) else (if x2 = 32 then (if z1 = 0 then m_X3_withRegister_77  σ a0 a1 z1 x2 z3 z4 else (if z1 = 5 then m_X3_withRegister_77  σ a0 a1 z1 x2 z3 z4 else m_X3_withRegister_81  σ a0 a1 z1 x2 z3 z4)) else m_X3_withRegister_81  σ a0 a1 z1 x2 z3 z4))) (m_X3_second σ a0 a1) = mm := by rw [qz3]; exact hm
  have hc : eb_M l yX3_first (Cond.code yX3_first cX3_first 2 (some .long) :: wsL_law) 1 21 D 33 cy cL ad σ [.ref (ad (19 + a0)), .int a1] (some (.long z3)) σ := by rw [qz3]; exact c_X3_first l D cy ad σ a0 a1 (by omega)
  refine eb_callS (n := 2) X hw hl.1 (rest := []) hc (eb_goodS wi_16_1 wi_16_2 wi_2_11 wi_16_3) rfl (by decide +kernel) ⟨by decide, by decide⟩ rfl rfl (Nat.le_of_ble_eq_true rfl) dX3_withRegister_13 ⟨by decide, by decide⟩ (st' := [.long z3]) rfl (fun H locs hw => ?_)
  refine lv_lstore (lv' := [(5, .long z3), (4, .int x2), (3, .int z1), (0, .ref (ad 9)), (1, .ref (ad (19 + a0))), (2, .int a1)]) hx hb dX3_withRegister_16 hl (by decide) rfl (fun ls hl => ?_)
  refine lv_aload_n hx hb dX3_withRegister_18 rfl (lv_at hl 4 rfl) ?_
  refine lv_iload_n hx hb dX3_withRegister_19 rfl (lv_at hl 5 rfl) ?_
  obtain ⟨z4, qz4⟩ : ∃ t : Int64, t = m_X3_second σ a0 a1 := ⟨_, rfl⟩
  have hm : (if x2 = 1 then (if (4 : Int32) ≤ z1 then (fun (z10 : Int64) => (fun (z11 : Int32 × eb_St) => (z11.1, z11.2)) (m_X3_finish σ a0 a1 z10)) (m_X0_divided z1 z3 z4) else (fun (z12 : Int64) => (fun (z13 : Int32 × eb_St) => (z13.1, z13.2)) (m_X3_finish σ a0 a1 z12)) (m_X0_multiplied z1 z3 z4)) else (if x2 = 32 then (if z1 = 0 then m_X3_withRegister_77  σ a0 a1 z1 x2 z3 z4 else (if z1 = 5 then m_X3_withRegister_77  σ a0 a1 z1 x2 z3 z4 else m_X3_withRegister_81  σ a0 a1 z1 x2 z3 z4)) else m_X3_withRegister_81  σ a0 a1 z1 x2 z3 z4)) = mm := by rw [qz4]; exact hm
  have hc : eb_M l yX3_second (Cond.code yX3_second cX3_second 2 (some .long) :: wsL_law) 1 21 D 33 cy cL ad σ [.ref (ad (19 + a0)), .int a1] (some (.long z4)) σ := by rw [qz4]; exact c_X3_second l D cy ad σ a0 a1 (by omega)
  refine eb_callS (n := 2) X hw hl.1 (rest := []) hc (eb_goodS wi_17_15 wi_17_16 wi_2_11 wi_17_17) rfl (by decide +kernel) ⟨by decide, by decide⟩ rfl rfl (Nat.le_of_ble_eq_true rfl) dX3_withRegister_20 ⟨by decide, by decide⟩ (st' := [.long z4]) rfl (fun H locs hw => ?_)
  refine lv_lstore (lv' := [(7, .long z4), (5, .long z3), (4, .int x2), (3, .int z1), (0, .ref (ad 9)), (1, .ref (ad (19 + a0))), (2, .int a1)]) hx hb dX3_withRegister_23 hl (by decide) rfl (fun ls hl => ?_)
  refine lv_iload hx hb dX3_withRegister_25 (lv_at hl 2 rfl) ?_
  refine lv_iconst (v := 1) hx hb dX3_withRegister_27 (by decide) ?_
  refine lv_icmp_ne (tgt := 61) hx hb dX3_withRegister_28 (by decide) (fun h5 => ?_) (fun h5 => ?_)
  · have hm := (if_neg h5).symm.trans hm
    refine lv_iload hx hb dX3_withRegister_61 (lv_at hl 2 rfl) ?_
    refine lv_bipush (v := 32) hx hb dX3_withRegister_63 (by decide) ?_
    refine lv_icmp_ne (tgt := 81) hx hb dX3_withRegister_65 (by decide) (fun h6 => ?_) (fun h6 => ?_)
    · have hm := (if_neg h6).symm.trans hm
      exact k_X3_withRegister_81 X   σ a0 a1 z1 x2 z3 z4 (by omega) hm hw (lv_sub hl [4, 5, 6, 3, 2, 1, 0] rfl)
    · have hm := (if_pos h6).symm.trans hm
      refine lv_iload_n hx hb dX3_withRegister_68 rfl (lv_at hl 3 rfl) ?_
      refine lv_if_eq (tgt := 77) hx hb dX3_withRegister_69 (by decide) (fun h7 => ?_) (fun h7 => ?_)
      · have hm := (if_pos h7).symm.trans hm
        exact k_X3_withRegister_77 X   σ a0 a1 z1 x2 z3 z4 (by omega) hm hw (lv_sub hl [4, 5, 6, 3, 2, 1, 0] rfl)
      · have hm := (if_neg h7).symm.trans hm
        refine lv_iload_n hx hb dX3_withRegister_72 rfl (lv_at hl 3 rfl) ?_
        refine lv_iconst (v := 5) hx hb dX3_withRegister_73 (by decide) ?_
        refine lv_icmp_ne (tgt := 81) hx hb dX3_withRegister_74 (by decide) (fun h8 => ?_) (fun h8 => ?_)
        · have hm := (if_neg h8).symm.trans hm
          exact k_X3_withRegister_81 X   σ a0 a1 z1 x2 z3 z4 (by omega) hm hw (lv_sub hl [4, 5, 6, 3, 2, 1, 0] rfl)
        · have hm := (if_pos h8).symm.trans hm
          exact k_X3_withRegister_77 X   σ a0 a1 z1 x2 z3 z4 (by omega) hm hw (lv_sub hl [4, 5, 6, 3, 2, 1, 0] rfl)
  · have hm := (if_pos h5).symm.trans hm
    refine lv_aload_n hx hb dX3_withRegister_31 rfl (lv_at hl 5 rfl) ?_
    refine lv_iload_n hx hb dX3_withRegister_32 rfl (lv_at hl 6 rfl) ?_
    refine lv_iload_n hx hb dX3_withRegister_33 rfl (lv_at hl 3 rfl) ?_
    refine lv_iconst (v := 4) hx hb dX3_withRegister_34 (by decide) ?_
    refine lv_icmp_ge (tgt := 49) hx hb dX3_withRegister_35 (by decide) (fun h9 => ?_) (fun h9 => ?_)
    · have hm := (if_pos h9).symm.trans hm
      refine lv_iload_n hx hb dX3_withRegister_49 rfl (lv_at hl 3 rfl) ?_
      refine lv_lload hx hb dX3_withRegister_50 (lv_at hl 1 rfl) ?_
      refine lv_lload hx hb dX3_withRegister_52 (lv_at hl 0 rfl) ?_
      obtain ⟨z10, qz10⟩ : ∃ t : Int64, t = m_X0_divided z1 z3 z4 := ⟨_, rfl⟩
      have hm : (fun (z11 : Int32 × eb_St) => (z11.1, z11.2)) (m_X3_finish σ a0 a1 z10) = mm := by rw [qz10]; exact hm
      have hc : eb_M l yX0_divided (Cond.code yX0_divided cX0_divided 5 (some .long) :: wsL_law) 3 73 D 33 cy cL ad σ [.int z1, .long z3, .long z4] (some (.long z10)) σ := by rw [qz10]; exact c_X0_divided l D cy ad σ z1 z3 z4
      refine eb_callS (n := 3) X hw hl.1 (rest := [.int a1, .ref (ad (19 + a0))]) hc (eb_goodS wi_18_7 wi_18_8 wi_16_18 wi_18_9) rfl (by decide +kernel) ⟨by decide, by decide⟩ rfl rfl (Nat.le_of_ble_eq_true rfl) dX3_withRegister_54 ⟨by decide, by decide⟩ (st' := [.long z10, .int a1, .ref (ad (19 + a0))]) rfl (fun H locs hw => ?_)
      obtain ⟨z11, qz11⟩ : ∃ t : Int32 × eb_St, t = m_X3_finish σ a0 a1 z10 := ⟨_, rfl⟩
      have hm : (z11.1, z11.2) = mm := by rw [qz11]; exact hm
      have hc : eb_M l yX3_finish (Cond.code yX3_finish cX3_finish 4 (some .int) :: wsL_law) 1 23 D 33 cy cL ad σ [.ref (ad (19 + a0)), .int a1, .long z10] (some (.int z11.1)) z11.2 := by rw [qz11]; exact c_X3_finish l D cy ad σ a0 a1 z10 (by omega)
      refine eb_callS (n := 3) X hw hl.1 (rest := []) hc (eb_goodS wi_16_8 wi_16_9 wi_2_11 wi_16_10) rfl (by decide +kernel) ⟨by decide, by decide⟩ rfl rfl (Nat.le_of_ble_eq_true rfl) dX3_withRegister_57 ⟨by decide, by decide⟩ (st' := [.int z11.1]) rfl (fun H locs hw => ?_)
      subst hm
      exact eb_iret X hw rfl rfl rfl dX3_withRegister_60
    · have hm := (if_neg h9).symm.trans hm
      refine lv_iload_n hx hb dX3_withRegister_38 rfl (lv_at hl 3 rfl) ?_
      refine lv_lload hx hb dX3_withRegister_39 (lv_at hl 1 rfl) ?_
      refine lv_lload hx hb dX3_withRegister_41 (lv_at hl 0 rfl) ?_
      obtain ⟨z12, qz12⟩ : ∃ t : Int64, t = m_X0_multiplied z1 z3 z4 := ⟨_, rfl⟩
      have hm : (fun (z13 : Int32 × eb_St) => (z13.1, z13.2)) (m_X3_finish σ a0 a1 z12) = mm := by rw [qz12]; exact hm
      have hc : eb_M l yX0_multiplied (Cond.code yX0_multiplied cX0_multiplied 5 (some .long) :: wsL_law) 1 39 D 33 cy cL ad σ [.int z1, .long z3, .long z4] (some (.long z12)) σ := by rw [qz12]; exact c_X0_multiplied l D cy ad σ z1 z3 z4
      refine eb_callS (n := 3) X hw hl.1 (rest := [.int a1, .ref (ad (19 + a0))]) hc (eb_goodS wi_17_23 wi_18_0 wi_16_18 wi_18_1) rfl (by decide +kernel) ⟨by decide, by decide⟩ rfl rfl (Nat.le_of_ble_eq_true rfl) dX3_withRegister_43 ⟨by decide, by decide⟩ (st' := [.long z12, .int a1, .ref (ad (19 + a0))]) rfl (fun H locs hw => ?_)
      refine lv_goto (tgt := 57) hx hb dX3_withRegister_46 (by decide) ?_
      obtain ⟨z13, qz13⟩ : ∃ t : Int32 × eb_St, t = m_X3_finish σ a0 a1 z12 := ⟨_, rfl⟩
      have hm : (z13.1, z13.2) = mm := by rw [qz13]; exact hm
      have hc : eb_M l yX3_finish (Cond.code yX3_finish cX3_finish 4 (some .int) :: wsL_law) 1 23 D 33 cy cL ad σ [.ref (ad (19 + a0)), .int a1, .long z12] (some (.int z13.1)) z13.2 := by rw [qz13]; exact c_X3_finish l D cy ad σ a0 a1 z12 (by omega)
      refine eb_callS (n := 3) X hw hl.1 (rest := []) hc (eb_goodS wi_16_8 wi_16_9 wi_2_11 wi_16_10) rfl (by decide +kernel) ⟨by decide, by decide⟩ rfl rfl (Nat.le_of_ble_eq_true rfl) dX3_withRegister_57 ⟨by decide, by decide⟩ (st' := [.int z13.1]) rfl (fun H locs hw => ?_)
      subst hm
      exact eb_iret X hw rfl rfl rfl dX3_withRegister_60

set_option maxHeartbeats 4000000 in
set_option maxRecDepth 100000 in
theorem k_X3_withRegisterWord_42 {p : Program} {l : Launch} {e : Env} {s : State} {m : MethodId} {args : Array Value} {below : List Frame} {meth : Method} {c : Code} {A : Nat → Prop} {H : Heap} {locs : List Loc} {ls : Array Slot} {D : va_G} {cy : Nat → ClassId} {ad : Nat → Nat} (X : eb_X p s m args meth c cX3_withRegisterWord 9 RX3 (Cond.code yX3_withRegisterWord cX3_withRegisterWord 9 (some .int) :: wsL_law) (some .int) D cy A)   (σ : eb_St) (v1 : Nat) (v2 : Int32) (v3 : Int32) (v5 : Int32) (v6 : Int32) (bv1 : v1 < 7) {mm : Int32 × eb_St} (hm : (m_X3_withRegisterWord_42  σ v1 v2 v3 v5 v6) = mm) (hw : eb_H D 33 cy cL ad A s.heap σ H locs) (hl : lv_has ls 9 [(1, .ref (ad (19 + v1))), (2, .int v2), (3, .int v3), (5, .int v5), (6, .int v6)]) : W p l e ({ frames := 2, cells := 0, slots := 0, locals := 46 } : Room) s m args below meth c H locs 0 0 (MQ below (eb_Q D 33 cy cL ad A (some (.int mm.1)) mm.2) args s 0 0 A) (F0 m 42 ls []) := by
  have hx := X.1.1
  have hb := X.1.2.1
  have hown := X.1.2.2.2.1
  have hts := X.1.2.2.2.2
  have hm : (fun (z13 : Int64) => (fun (z14 : Int32 × eb_St) => (z14.1, z14.2)) (m_X3_finish σ v1 v2 z13)) (m_X0_multipliedWord v3 v5 v6) = mm := hm
  refine lv_aload_n hx hb dX3_withRegisterWord_42 rfl (lv_at hl 0 rfl) ?_
  refine lv_iload_n hx hb dX3_withRegisterWord_43 rfl (lv_at hl 1 rfl) ?_
  refine lv_iload_n hx hb dX3_withRegisterWord_44 rfl (lv_at hl 2 rfl) ?_
  refine lv_iload hx hb dX3_withRegisterWord_45 (lv_at hl 3 rfl) ?_
  refine lv_iload hx hb dX3_withRegisterWord_47 (lv_at hl 4 rfl) ?_
  obtain ⟨z13, qz13⟩ : ∃ t : Int64, t = m_X0_multipliedWord v3 v5 v6 := ⟨_, rfl⟩
  have hm : (fun (z14 : Int32 × eb_St) => (z14.1, z14.2)) (m_X3_finish σ v1 v2 z13) = mm := by rw [qz13]; exact hm
  have hc : eb_M l yX0_multipliedWord (Cond.code yX0_multipliedWord cX0_multipliedWord 3 (some .long) :: wsL_law) 0 0 D 33 cy cL ad σ [.int v3, .int v5, .int v6] (some (.long z13)) σ := by rw [qz13]; exact c_X0_multipliedWord l D cy ad σ v3 v5 v6
  refine eb_callS (n := 3) X hw hl.1 (rest := [.int v2, .ref (ad (19 + v1))]) hc (eb_goodS wi_18_18 wi_18_19 wi_16_18 wi_18_20) rfl (by decide +kernel) ⟨by decide, by decide⟩ rfl rfl (Nat.le_of_ble_eq_true rfl) dX3_withRegisterWord_49 ⟨by decide, by decide⟩ (st' := [.long z13, .int v2, .ref (ad (19 + v1))]) rfl (fun H locs hw => ?_)
  obtain ⟨z14, qz14⟩ : ∃ t : Int32 × eb_St, t = m_X3_finish σ v1 v2 z13 := ⟨_, rfl⟩
  have hm : (z14.1, z14.2) = mm := by rw [qz14]; exact hm
  have hc : eb_M l yX3_finish (Cond.code yX3_finish cX3_finish 4 (some .int) :: wsL_law) 1 23 D 33 cy cL ad σ [.ref (ad (19 + v1)), .int v2, .long z13] (some (.int z14.1)) z14.2 := by rw [qz14]; exact c_X3_finish l D cy ad σ v1 v2 z13 (by omega)
  refine eb_callS (n := 3) X hw hl.1 (rest := []) hc (eb_goodS wi_16_8 wi_16_9 wi_2_11 wi_16_10) rfl (by decide +kernel) ⟨by decide, by decide⟩ rfl rfl (Nat.le_of_ble_eq_true rfl) dX3_withRegisterWord_52 ⟨by decide, by decide⟩ (st' := [.int z14.1]) rfl (fun H locs hw => ?_)
  subst hm
  exact eb_iret X hw rfl rfl rfl dX3_withRegisterWord_55
set_option maxHeartbeats 4000000 in
set_option maxRecDepth 100000 in
theorem k_X3_withRegisterWord_121 {p : Program} {l : Launch} {e : Env} {s : State} {m : MethodId} {args : Array Value} {below : List Frame} {meth : Method} {c : Code} {A : Nat → Prop} {H : Heap} {locs : List Loc} {ls : Array Slot} {D : va_G} {cy : Nat → ClassId} {ad : Nat → Nat} (X : eb_X p s m args meth c cX3_withRegisterWord 9 RX3 (Cond.code yX3_withRegisterWord cX3_withRegisterWord 9 (some .int) :: wsL_law) (some .int) D cy A)   (σ : eb_St) (v1 : Nat) (v2 : Int32) (v3 : Int32) (v5 : Int32) (v6 : Int32) (v7 : Int32) (bv1 : v1 < 7) {mm : Int32 × eb_St} (hm : (m_X3_withRegisterWord_121  σ v1 v2 v3 v5 v6 v7) = mm) (hw : eb_H D 33 cy cL ad A s.heap σ H locs) (hl : lv_has ls 9 [(1, .ref (ad (19 + v1))), (2, .int v2), (3, .int v3), (5, .int v5), (6, .int v6), (7, .int v7)]) : W p l e ({ frames := 2, cells := 0, slots := 0, locals := 46 } : Room) s m args below meth c H locs 0 0 (MQ below (eb_Q D 33 cy cL ad A (some (.int mm.1)) mm.2) args s 0 0 A) (F0 m 121 ls []) := by
  have hx := X.1.1
  have hb := X.1.2.1
  have hown := X.1.2.2.2.1
  have hts := X.1.2.2.2.2
  have hm : (fun (z22 : Int64) => (fun (z23 : Int32 × eb_St) => (z23.1, z23.2)) (m_X3_finish σ v1 v2 z22)) (m_X0_basicWord v3 v7 v5 v6) = mm := hm
  refine lv_aload_n hx hb dX3_withRegisterWord_121 rfl (lv_at hl 0 rfl) ?_
  refine lv_iload_n hx hb dX3_withRegisterWord_122 rfl (lv_at hl 1 rfl) ?_
  refine lv_iload_n hx hb dX3_withRegisterWord_123 rfl (lv_at hl 2 rfl) ?_
  refine lv_iload hx hb dX3_withRegisterWord_124 (lv_at hl 5 rfl) ?_
  refine lv_iload hx hb dX3_withRegisterWord_126 (lv_at hl 3 rfl) ?_
  refine lv_iload hx hb dX3_withRegisterWord_128 (lv_at hl 4 rfl) ?_
  obtain ⟨z22, qz22⟩ : ∃ t : Int64, t = m_X0_basicWord v3 v7 v5 v6 := ⟨_, rfl⟩
  have hm : (fun (z23 : Int32 × eb_St) => (z23.1, z23.2)) (m_X3_finish σ v1 v2 z22) = mm := by rw [qz22]; exact hm
  have hc : eb_M l yX0_basicWord (Cond.code yX0_basicWord cX0_basicWord 5 (some .long) :: wsL_law) 0 0 D 33 cy cL ad σ [.int v3, .int v7, .int v5, .int v6] (some (.long z22)) σ := by rw [qz22]; exact c_X0_basicWord l D cy ad σ v3 v7 v5 v6
  refine eb_callS (n := 4) X hw hl.1 (rest := [.int v2, .ref (ad (19 + v1))]) hc (eb_goodS wi_17_8 wi_17_9 wi_16_18 wi_17_10) rfl (by decide +kernel) ⟨by decide, by decide⟩ rfl rfl (Nat.le_of_ble_eq_true rfl) dX3_withRegisterWord_130 ⟨by decide, by decide⟩ (st' := [.long z22, .int v2, .ref (ad (19 + v1))]) rfl (fun H locs hw => ?_)
  obtain ⟨z23, qz23⟩ : ∃ t : Int32 × eb_St, t = m_X3_finish σ v1 v2 z22 := ⟨_, rfl⟩
  have hm : (z23.1, z23.2) = mm := by rw [qz23]; exact hm
  have hc : eb_M l yX3_finish (Cond.code yX3_finish cX3_finish 4 (some .int) :: wsL_law) 1 23 D 33 cy cL ad σ [.ref (ad (19 + v1)), .int v2, .long z22] (some (.int z23.1)) z23.2 := by rw [qz23]; exact c_X3_finish l D cy ad σ v1 v2 z22 (by omega)
  refine eb_callS (n := 3) X hw hl.1 (rest := []) hc (eb_goodS wi_16_8 wi_16_9 wi_2_11 wi_16_10) rfl (by decide +kernel) ⟨by decide, by decide⟩ rfl rfl (Nat.le_of_ble_eq_true rfl) dX3_withRegisterWord_133 ⟨by decide, by decide⟩ (st' := [.int z23.1]) rfl (fun H locs hw => ?_)
  subst hm
  exact eb_iret X hw rfl rfl rfl dX3_withRegisterWord_136
set_option maxHeartbeats 4000000 in
set_option maxRecDepth 100000 in
theorem k_X3_withRegisterWord_103 {p : Program} {l : Launch} {e : Env} {s : State} {m : MethodId} {args : Array Value} {below : List Frame} {meth : Method} {c : Code} {A : Nat → Prop} {H : Heap} {locs : List Loc} {ls : Array Slot} {D : va_G} {cy : Nat → ClassId} {ad : Nat → Nat} (X : eb_X p s m args meth c cX3_withRegisterWord 9 RX3 (Cond.code yX3_withRegisterWord cX3_withRegisterWord 9 (some .int) :: wsL_law) (some .int) D cy A)   (σ : eb_St) (v1 : Nat) (v2 : Int32) (v3 : Int32) (v5 : Int32) (v6 : Int32) (v7 : Int32) (s0 : Int32) (bv1 : v1 < 7) {mm : Int32 × eb_St} (hm : (m_X3_withRegisterWord_103  σ v1 v2 v3 v5 v6 v7 s0) = mm) (hw : eb_H D 33 cy cL ad A s.heap σ H locs) (hl : lv_has ls 9 [(0, .ref (ad 9)), (1, .ref (ad (19 + v1))), (2, .int v2), (3, .int v3), (5, .int v5), (6, .int v6), (7, .int v7)]) : W p l e ({ frames := 2, cells := 0, slots := 0, locals := 46 } : Room) s m args below meth c H locs 0 0 (MQ below (eb_Q D 33 cy cL ad A (some (.int mm.1)) mm.2) args s 0 0 A) (F0 m 103 ls [.int s0]) := by
  have hx := X.1.1
  have hb := X.1.2.1
  have hown := X.1.2.2.2.1
  have hts := X.1.2.2.2.2
  have hm : (if s0 = 0 then (if v7 = 0 then (fun (z21 : Int32 × eb_St) => (z21.1, z21.2)) (m_X3_illegal σ v2) else m_X3_withRegisterWord_121  σ v1 v2 v3 v5 v6 v7) else m_X3_withRegisterWord_121  σ v1 v2 v3 v5 v6 v7) = mm := hm
  refine lv_istore (lv' := [(8, .int s0), (0, .ref (ad 9)), (1, .ref (ad (19 + v1))), (2, .int v2), (3, .int v3), (5, .int v5), (6, .int v6), (7, .int v7)]) hx hb dX3_withRegisterWord_103 hl (by decide) rfl (fun ls hl => ?_)
  refine lv_iload hx hb dX3_withRegisterWord_105 (lv_at hl 0 rfl) ?_
  refine lv_if_ne (tgt := 121) hx hb dX3_withRegisterWord_107 (by decide) (fun h19 => ?_) (fun h19 => ?_)
  · have hm := (if_neg h19).symm.trans hm
    exact k_X3_withRegisterWord_121 X   σ v1 v2 v3 v5 v6 v7 (by omega) hm hw (lv_sub hl [2, 3, 4, 5, 6, 7] rfl)
  · have hm := (if_pos h19).symm.trans hm
    refine lv_iload hx hb dX3_withRegisterWord_110 (lv_at hl 7 rfl) ?_
    refine lv_if_ne (tgt := 121) hx hb dX3_withRegisterWord_112 (by decide) (fun h20 => ?_) (fun h20 => ?_)
    · have hm := (if_neg h20).symm.trans hm
      exact k_X3_withRegisterWord_121 X   σ v1 v2 v3 v5 v6 v7 (by omega) hm hw (lv_sub hl [2, 3, 4, 5, 6, 7] rfl)
    · have hm := (if_pos h20).symm.trans hm
      refine lv_aload_n hx hb dX3_withRegisterWord_115 rfl (lv_at hl 1 rfl) ?_
      refine lv_iload_n hx hb dX3_withRegisterWord_116 rfl (lv_at hl 3 rfl) ?_
      obtain ⟨z21, qz21⟩ : ∃ t : Int32 × eb_St, t = m_X3_illegal σ v2 := ⟨_, rfl⟩
      have hm : (z21.1, z21.2) = mm := by rw [qz21]; exact hm
      have hc : eb_M l yX3_illegal (Cond.code yX3_illegal cX3_illegal 2 (some .int) :: wsL_law) 1 23 D 33 cy cL ad σ [.ref (ad 9), .int v2] (some (.int z21.1)) z21.2 := by rw [qz21]; exact c_X3_illegal l D cy ad σ v2
      refine eb_callV (n := 1) (as := [.int v2]) (rest := []) X hw hl.1 9 hc (by decide) ⟨rfl, rfl, rfl⟩ (eb_goodV wi_15_20 wi_15_21 wi_15_22 wi_2_11 wi_15_23) rfl (by decide +kernel) ⟨by decide, by decide⟩ rfl rfl (Nat.le_of_ble_eq_true rfl) dX3_withRegisterWord_117 ⟨by decide, by decide⟩ (st' := [.int z21.1]) rfl (fun H locs hw => ?_)
      subst hm
      exact eb_iret X hw rfl rfl rfl dX3_withRegisterWord_120
set_option maxHeartbeats 4000000 in
set_option maxRecDepth 100000 in
theorem k_X3_withRegisterWord_98 {p : Program} {l : Launch} {e : Env} {s : State} {m : MethodId} {args : Array Value} {below : List Frame} {meth : Method} {c : Code} {A : Nat → Prop} {H : Heap} {locs : List Loc} {ls : Array Slot} {D : va_G} {cy : Nat → ClassId} {ad : Nat → Nat} (X : eb_X p s m args meth c cX3_withRegisterWord 9 RX3 (Cond.code yX3_withRegisterWord cX3_withRegisterWord 9 (some .int) :: wsL_law) (some .int) D cy A)   (σ : eb_St) (v1 : Nat) (v2 : Int32) (v3 : Int32) (v5 : Int32) (v6 : Int32) (v7 : Int32) (bv1 : v1 < 7) {mm : Int32 × eb_St} (hm : (m_X3_withRegisterWord_98  σ v1 v2 v3 v5 v6 v7) = mm) (hw : eb_H D 33 cy cL ad A s.heap σ H locs) (hl : lv_has ls 9 [(0, .ref (ad 9)), (1, .ref (ad (19 + v1))), (2, .int v2), (3, .int v3), (5, .int v5), (6, .int v6), (7, .int v7)]) : W p l e ({ frames := 2, cells := 0, slots := 0, locals := 46 } : Room) s m args below meth c H locs 0 0 (MQ below (eb_Q D 33 cy cL ad A (some (.int mm.1)) mm.2) args s 0 0 A) (F0 m 98 ls []) := by
  have hx := X.1.1
  have hb := X.1.2.1
  have hown := X.1.2.2.2.1
  have hts := X.1.2.2.2.2
  have hm : m_X3_withRegisterWord_103  σ v1 v2 v3 v5 v6 v7 1 = mm := hm
  refine lv_iconst (v := 1) hx hb dX3_withRegisterWord_98 (by decide) ?_
  refine lv_goto (tgt := 103) hx hb dX3_withRegisterWord_99 (by decide) ?_
  exact k_X3_withRegisterWord_103 X   σ v1 v2 v3 v5 v6 v7 1 (by omega) hm hw (lv_sub hl [0, 1, 2, 3, 4, 5, 6] rfl)
set_option maxHeartbeats 4000000 in
set_option maxRecDepth 100000 in
theorem k_X3_withRegisterWord_102 {p : Program} {l : Launch} {e : Env} {s : State} {m : MethodId} {args : Array Value} {below : List Frame} {meth : Method} {c : Code} {A : Nat → Prop} {H : Heap} {locs : List Loc} {ls : Array Slot} {D : va_G} {cy : Nat → ClassId} {ad : Nat → Nat} (X : eb_X p s m args meth c cX3_withRegisterWord 9 RX3 (Cond.code yX3_withRegisterWord cX3_withRegisterWord 9 (some .int) :: wsL_law) (some .int) D cy A)   (σ : eb_St) (v1 : Nat) (v2 : Int32) (v3 : Int32) (v5 : Int32) (v6 : Int32) (v7 : Int32) (bv1 : v1 < 7) {mm : Int32 × eb_St} (hm : (m_X3_withRegisterWord_102  σ v1 v2 v3 v5 v6 v7) = mm) (hw : eb_H D 33 cy cL ad A s.heap σ H locs) (hl : lv_has ls 9 [(0, .ref (ad 9)), (1, .ref (ad (19 + v1))), (2, .int v2), (3, .int v3), (5, .int v5), (6, .int v6), (7, .int v7)]) : W p l e ({ frames := 2, cells := 0, slots := 0, locals := 46 } : Room) s m args below meth c H locs 0 0 (MQ below (eb_Q D 33 cy cL ad A (some (.int mm.1)) mm.2) args s 0 0 A) (F0 m 102 ls []) := by
  have hx := X.1.1
  have hb := X.1.2.1
  have hown := X.1.2.2.2.1
  have hts := X.1.2.2.2.2
  have hm : m_X3_withRegisterWord_103  σ v1 v2 v3 v5 v6 v7 0 = mm := hm
  refine lv_iconst (v := 0) hx hb dX3_withRegisterWord_102 (by decide) ?_
  exact k_X3_withRegisterWord_103 X   σ v1 v2 v3 v5 v6 v7 0 (by omega) hm hw (lv_sub hl [0, 1, 2, 3, 4, 5, 6] rfl)
set_option maxHeartbeats 4000000 in
set_option maxRecDepth 100000 in
theorem k_X3_withRegisterWord_77 {p : Program} {l : Launch} {e : Env} {s : State} {m : MethodId} {args : Array Value} {below : List Frame} {meth : Method} {c : Code} {A : Nat → Prop} {H : Heap} {locs : List Loc} {ls : Array Slot} {D : va_G} {cy : Nat → ClassId} {ad : Nat → Nat} (X : eb_X p s m args meth c cX3_withRegisterWord 9 RX3 (Cond.code yX3_withRegisterWord cX3_withRegisterWord 9 (some .int) :: wsL_law) (some .int) D cy A)   (σ : eb_St) (v1 : Nat) (v2 : Int32) (v3 : Int32) (v4 : Int32) (v5 : Int32) (v6 : Int32) (s0 : Int32) (bv1 : v1 < 7) {mm : Int32 × eb_St} (hm : (m_X3_withRegisterWord_77  σ v1 v2 v3 v4 v5 v6 s0) = mm) (hw : eb_H D 33 cy cL ad A s.heap σ H locs) (hl : lv_has ls 9 [(0, .ref (ad 9)), (1, .ref (ad (19 + v1))), (2, .int v2), (3, .int v3), (4, .int v4), (5, .int v5), (6, .int v6)]) : W p l e ({ frames := 2, cells := 0, slots := 0, locals := 46 } : Room) s m args below meth c H locs 0 0 (MQ below (eb_Q D 33 cy cL ad A (some (.int mm.1)) mm.2) args s 0 0 A) (F0 m 77 ls [.int s0]) := by
  have hx := X.1.1
  have hb := X.1.2.1
  have hown := X.1.2.2.2.1
  have hts := X.1.2.2.2.2
  have hm : (if v4 = 0 then (if v3 = 0 then m_X3_withRegisterWord_98  σ v1 v2 v3 v5 v6 s0 else (if v3 = 1 then m_X3_withRegisterWord_98  σ v1 v2 v3 v5 v6 s0 else (if v3 = 5 then m_X3_withRegisterWord_98  σ v1 v2 v3 v5 v6 s0 else m_X3_withRegisterWord_102  σ v1 v2 v3 v5 v6 s0))) else m_X3_withRegisterWord_102  σ v1 v2 v3 v5 v6 s0) = mm := hm
  refine lv_istore (lv' := [(7, .int s0), (0, .ref (ad 9)), (1, .ref (ad (19 + v1))), (2, .int v2), (3, .int v3), (4, .int v4), (5, .int v5), (6, .int v6)]) hx hb dX3_withRegisterWord_77 hl (by decide) rfl (fun ls hl => ?_)
  refine lv_iload hx hb dX3_withRegisterWord_79 (lv_at hl 5 rfl) ?_
  refine lv_if_ne (tgt := 102) hx hb dX3_withRegisterWord_81 (by decide) (fun h15 => ?_) (fun h15 => ?_)
  · have hm := (if_neg h15).symm.trans hm
    exact k_X3_withRegisterWord_102 X   σ v1 v2 v3 v5 v6 s0 (by omega) hm hw (lv_sub hl [1, 2, 3, 4, 6, 7, 0] rfl)
  · have hm := (if_pos h15).symm.trans hm
    refine lv_iload_n hx hb dX3_withRegisterWord_84 rfl (lv_at hl 4 rfl) ?_
    refine lv_if_eq (tgt := 98) hx hb dX3_withRegisterWord_85 (by decide) (fun h16 => ?_) (fun h16 => ?_)
    · have hm := (if_pos h16).symm.trans hm
      exact k_X3_withRegisterWord_98 X   σ v1 v2 v3 v5 v6 s0 (by omega) hm hw (lv_sub hl [1, 2, 3, 4, 6, 7, 0] rfl)
    · have hm := (if_neg h16).symm.trans hm
      refine lv_iload_n hx hb dX3_withRegisterWord_88 rfl (lv_at hl 4 rfl) ?_
      refine lv_iconst (v := 1) hx hb dX3_withRegisterWord_89 (by decide) ?_
      refine lv_icmp_eq (tgt := 98) hx hb dX3_withRegisterWord_90 (by decide) (fun h17 => ?_) (fun h17 => ?_)
      · have hm := (if_pos h17).symm.trans hm
        exact k_X3_withRegisterWord_98 X   σ v1 v2 v3 v5 v6 s0 (by omega) hm hw (lv_sub hl [1, 2, 3, 4, 6, 7, 0] rfl)
      · have hm := (if_neg h17).symm.trans hm
        refine lv_iload_n hx hb dX3_withRegisterWord_93 rfl (lv_at hl 4 rfl) ?_
        refine lv_iconst (v := 5) hx hb dX3_withRegisterWord_94 (by decide) ?_
        refine lv_icmp_ne (tgt := 102) hx hb dX3_withRegisterWord_95 (by decide) (fun h18 => ?_) (fun h18 => ?_)
        · have hm := (if_neg h18).symm.trans hm
          exact k_X3_withRegisterWord_102 X   σ v1 v2 v3 v5 v6 s0 (by omega) hm hw (lv_sub hl [1, 2, 3, 4, 6, 7, 0] rfl)
        · have hm := (if_pos h18).symm.trans hm
          exact k_X3_withRegisterWord_98 X   σ v1 v2 v3 v5 v6 s0 (by omega) hm hw (lv_sub hl [1, 2, 3, 4, 6, 7, 0] rfl)
set_option maxHeartbeats 4000000 in
set_option maxRecDepth 100000 in
theorem k_X3_withRegisterWord_72 {p : Program} {l : Launch} {e : Env} {s : State} {m : MethodId} {args : Array Value} {below : List Frame} {meth : Method} {c : Code} {A : Nat → Prop} {H : Heap} {locs : List Loc} {ls : Array Slot} {D : va_G} {cy : Nat → ClassId} {ad : Nat → Nat} (X : eb_X p s m args meth c cX3_withRegisterWord 9 RX3 (Cond.code yX3_withRegisterWord cX3_withRegisterWord 9 (some .int) :: wsL_law) (some .int) D cy A)   (σ : eb_St) (v1 : Nat) (v2 : Int32) (v3 : Int32) (v4 : Int32) (v5 : Int32) (v6 : Int32) (bv1 : v1 < 7) {mm : Int32 × eb_St} (hm : (m_X3_withRegisterWord_72  σ v1 v2 v3 v4 v5 v6) = mm) (hw : eb_H D 33 cy cL ad A s.heap σ H locs) (hl : lv_has ls 9 [(0, .ref (ad 9)), (1, .ref (ad (19 + v1))), (2, .int v2), (3, .int v3), (4, .int v4), (5, .int v5), (6, .int v6)]) : W p l e ({ frames := 2, cells := 0, slots := 0, locals := 46 } : Room) s m args below meth c H locs 0 0 (MQ below (eb_Q D 33 cy cL ad A (some (.int mm.1)) mm.2) args s 0 0 A) (F0 m 72 ls []) := by
  have hx := X.1.1
  have hb := X.1.2.1
  have hown := X.1.2.2.2.1
  have hts := X.1.2.2.2.2
  have hm : m_X3_withRegisterWord_77  σ v1 v2 v3 v4 v5 v6 1 = mm := hm
  refine lv_iconst (v := 1) hx hb dX3_withRegisterWord_72 (by decide) ?_
  refine lv_goto (tgt := 77) hx hb dX3_withRegisterWord_73 (by decide) ?_
  exact k_X3_withRegisterWord_77 X   σ v1 v2 v3 v4 v5 v6 1 (by omega) hm hw (lv_sub hl [0, 1, 2, 3, 4, 5, 6] rfl)
set_option maxHeartbeats 4000000 in
set_option maxRecDepth 100000 in
theorem k_X3_withRegisterWord_76 {p : Program} {l : Launch} {e : Env} {s : State} {m : MethodId} {args : Array Value} {below : List Frame} {meth : Method} {c : Code} {A : Nat → Prop} {H : Heap} {locs : List Loc} {ls : Array Slot} {D : va_G} {cy : Nat → ClassId} {ad : Nat → Nat} (X : eb_X p s m args meth c cX3_withRegisterWord 9 RX3 (Cond.code yX3_withRegisterWord cX3_withRegisterWord 9 (some .int) :: wsL_law) (some .int) D cy A)   (σ : eb_St) (v1 : Nat) (v2 : Int32) (v3 : Int32) (v4 : Int32) (v5 : Int32) (v6 : Int32) (bv1 : v1 < 7) {mm : Int32 × eb_St} (hm : (m_X3_withRegisterWord_76  σ v1 v2 v3 v4 v5 v6) = mm) (hw : eb_H D 33 cy cL ad A s.heap σ H locs) (hl : lv_has ls 9 [(0, .ref (ad 9)), (1, .ref (ad (19 + v1))), (2, .int v2), (3, .int v3), (4, .int v4), (5, .int v5), (6, .int v6)]) : W p l e ({ frames := 2, cells := 0, slots := 0, locals := 46 } : Room) s m args below meth c H locs 0 0 (MQ below (eb_Q D 33 cy cL ad A (some (.int mm.1)) mm.2) args s 0 0 A) (F0 m 76 ls []) := by
  have hx := X.1.1
  have hb := X.1.2.1
  have hown := X.1.2.2.2.1
  have hts := X.1.2.2.2.2
  have hm : m_X3_withRegisterWord_77  σ v1 v2 v3 v4 v5 v6 0 = mm := hm
  refine lv_iconst (v := 0) hx hb dX3_withRegisterWord_76 (by decide) ?_
  exact k_X3_withRegisterWord_77 X   σ v1 v2 v3 v4 v5 v6 0 (by omega) hm hw (lv_sub hl [0, 1, 2, 3, 4, 5, 6] rfl)
set_option maxHeartbeats 4000000 in
set_option maxRecDepth 100000 in
theorem k_X3_withRegisterWord_56 {p : Program} {l : Launch} {e : Env} {s : State} {m : MethodId} {args : Array Value} {below : List Frame} {meth : Method} {c : Code} {A : Nat → Prop} {H : Heap} {locs : List Loc} {ls : Array Slot} {D : va_G} {cy : Nat → ClassId} {ad : Nat → Nat} (X : eb_X p s m args meth c cX3_withRegisterWord 9 RX3 (Cond.code yX3_withRegisterWord cX3_withRegisterWord 9 (some .int) :: wsL_law) (some .int) D cy A)   (σ : eb_St) (v1 : Nat) (v2 : Int32) (v3 : Int32) (v4 : Int32) (v5 : Int32) (v6 : Int32) (bv1 : v1 < 7) {mm : Int32 × eb_St} (hm : (m_X3_withRegisterWord_56  σ v1 v2 v3 v4 v5 v6) = mm) (hw : eb_H D 33 cy cL ad A s.heap σ H locs) (hl : lv_has ls 9 [(0, .ref (ad 9)), (1, .ref (ad (19 + v1))), (2, .int v2), (3, .int v3), (4, .int v4), (5, .int v5), (6, .int v6)]) : W p l e ({ frames := 2, cells := 0, slots := 0, locals := 46 } : Room) s m args below meth c H locs 0 0 (MQ below (eb_Q D 33 cy cL ad A (some (.int mm.1)) mm.2) args s 0 0 A) (F0 m 56 ls []) := by
  have hx := X.1.1
  have hb := X.1.2.1
  have hown := X.1.2.2.2.1
  have hts := X.1.2.2.2.2
  have hm : (if v4 = 32 then (if v3 = 0 then m_X3_withRegisterWord_72  σ v1 v2 v3 v4 v5 v6 else (if v3 = 5 then m_X3_withRegisterWord_72  σ v1 v2 v3 v4 v5 v6 else m_X3_withRegisterWord_76  σ v1 v2 v3 v4 v5 v6)) else m_X3_withRegisterWord_76  σ v1 v2 v3 v4 v5 v6) = mm := hm
  refine lv_iload hx hb dX3_withRegisterWord_56 (lv_at hl 4 rfl) ?_
  refine lv_bipush (v := 32) hx hb dX3_withRegisterWord_58 (by decide) ?_
  refine lv_icmp_ne (tgt := 76) hx hb dX3_withRegisterWord_60 (by decide) (fun h10 => ?_) (fun h10 => ?_)
  · have hm := (if_neg h10).symm.trans hm
    exact k_X3_withRegisterWord_76 X   σ v1 v2 v3 v4 v5 v6 (by omega) hm hw (lv_sub hl [0, 1, 2, 3, 4, 5, 6] rfl)
  · have hm := (if_pos h10).symm.trans hm
    refine lv_iload_n hx hb dX3_withRegisterWord_63 rfl (lv_at hl 3 rfl) ?_
    refine lv_if_eq (tgt := 72) hx hb dX3_withRegisterWord_64 (by decide) (fun h11 => ?_) (fun h11 => ?_)
    · have hm := (if_pos h11).symm.trans hm
      exact k_X3_withRegisterWord_72 X   σ v1 v2 v3 v4 v5 v6 (by omega) hm hw (lv_sub hl [0, 1, 2, 3, 4, 5, 6] rfl)
    · have hm := (if_neg h11).symm.trans hm
      refine lv_iload_n hx hb dX3_withRegisterWord_67 rfl (lv_at hl 3 rfl) ?_
      refine lv_iconst (v := 5) hx hb dX3_withRegisterWord_68 (by decide) ?_
      refine lv_icmp_ne (tgt := 76) hx hb dX3_withRegisterWord_69 (by decide) (fun h12 => ?_) (fun h12 => ?_)
      · have hm := (if_neg h12).symm.trans hm
        exact k_X3_withRegisterWord_76 X   σ v1 v2 v3 v4 v5 v6 (by omega) hm hw (lv_sub hl [0, 1, 2, 3, 4, 5, 6] rfl)
      · have hm := (if_pos h12).symm.trans hm
        exact k_X3_withRegisterWord_72 X   σ v1 v2 v3 v4 v5 v6 (by omega) hm hw (lv_sub hl [0, 1, 2, 3, 4, 5, 6] rfl)
set_option maxHeartbeats 4000000 in
set_option maxRecDepth 100000 in
theorem c_X3_withRegisterWord (l : Launch) (D : va_G) (cy : Nat → ClassId) (ad : Nat → Nat) (σ : eb_St) (a0 : Nat) (a1 : Int32) (ba0 : a0 < 7) : eb_M l yX3_withRegisterWord (Cond.code yX3_withRegisterWord cX3_withRegisterWord 9 (some .int) :: wsL_law) 2 46 D 33 cy cL ad σ [.ref (ad 9), .ref (ad (19 + a0)), .int a1] (some (.int (m_X3_withRegisterWord σ a0 a1).1)) ((m_X3_withRegisterWord σ a0 a1).2) := by
  refine eb_start (own := RX3) (by decide) rfl rfl (Nat.le_of_ble_eq_true rfl) ?_
  intro p e s m args below meth c A ls X hw hl
  have hl : lv_has ls 9 [(0, .ref (ad 9)), (1, .ref (ad (19 + a0))), (2, .int a1)] := hl
  have hx := X.1.1
  have hb := X.1.2.1
  have hown := X.1.2.2.2.1
  have hts := X.1.2.2.2.2
  generalize hm : m_X3_withRegisterWord σ a0 a1 = mm
  have hm : (fun (z1 : Int32) => (fun (x2 : Int32) => (fun (z3 : Int64) => (fun (x4 : Int32) => (fun (z5 : Int64) => (fun (x6 : Int32) => (if x2 = 1 then (if z1 = 0 then m_X3_withRegisterWord_42  σ a0 a1 z1 x4 x6 else (if z1 < 4 then m_X3_withRegisterWord_56  σ a0 a1 z1 x2 x4 x6 else m_X3_withRegisterWord_42  σ a0 a1 z1 x4 x6)) else m_X3_withRegisterWord_56  σ a0 a1 z1 x2 x4 x6)) (z5.toInt32)) (m_X3_second σ a0 a1)) (z3.toInt32)) (m_X3_first σ a0 a1)) (eb_iushr a1 25)) (m_X3_kind a1) = mm := hm
  refine lv_iload_n hx hb dX3_withRegisterWord_0 rfl (lv_at hl 2 rfl) ?_
  obtain ⟨z1, qz1⟩ : ∃ t : Int32, t = m_X3_kind a1 := ⟨_, rfl⟩
  have hm : (fun (x2 : Int32) => (fun (z3 : Int64) => (fun (x4 : Int32) => (fun (z5 : Int64) => (fun (x6 : Int32) => (if x2 = 1 then (if z1 = 0 then m_X3_withRegisterWord_42  σ a0 a1 z1 x4 x6 else (if z1 < 4 then m_X3_withRegisterWord_56  σ a0 a1 z1 x2 x4 x6 else m_X3_withRegisterWord_42  σ a0 a1 z1 x4 x6)) else m_X3_withRegisterWord_56  σ a0 a1 z1 x2 x4 x6)) (z5.toInt32)) (m_X3_second σ a0 a1)) (z3.toInt32)) (m_X3_first σ a0 a1)) (eb_iushr a1 25) = mm := by rw [qz1]; exact hm
  have hc : eb_M l yX3_kind (Cond.code yX3_kind cX3_kind 1 (some .int) :: wsL_law) 0 0 D 33 cy cL ad σ [.int a1] (some (.int z1)) σ := by rw [qz1]; exact c_X3_kind l D cy ad σ a1
  refine eb_callS (n := 1) X hw hl.1 (rest := []) hc (eb_goodS wi_15_17 wi_15_18 wi_2_11 wi_15_19) rfl (by decide +kernel) ⟨by decide, by decide⟩ rfl rfl (Nat.le_of_ble_eq_true rfl) dX3_withRegisterWord_1 ⟨by decide, by decide⟩ (st' := [.int z1]) rfl (fun H locs hw => ?_)
  refine lv_istore_n (lv' := [(3, .int z1), (0, .ref (ad 9)), (1, .ref (ad (19 + a0))), (2, .int a1)]) hx hb dX3_withRegisterWord_4 rfl hl (by decide) rfl (fun ls hl => ?_)
  refine lv_iload_n hx hb dX3_withRegisterWord_5 rfl (lv_at hl 3 rfl) ?_
  refine lv_bipush (v := 25) hx hb dX3_withRegisterWord_6 (by decide) ?_
  refine lv_iushr (v := eb_iushr a1 25) hx hb dX3_withRegisterWord_8 rfl ?_
  refine lv_topi (fun x2 ex2 => ?_)
  have hm : (fun (z3 : Int64) => (fun (x4 : Int32) => (fun (z5 : Int64) => (fun (x6 : Int32) => (if x2 = 1 then (if z1 = 0 then m_X3_withRegisterWord_42  σ a0 a1 z1 x4 x6 else (if z1 < 4 then m_X3_withRegisterWord_56  σ a0 a1 z1 x2 x4 x6 else m_X3_withRegisterWord_42  σ a0 a1 z1 x4 x6)) else m_X3_withRegisterWord_56  σ a0 a1 z1 x2 x4 x6)) (z5.toInt32)) (m_X3_second σ a0 a1)) (z3.toInt32)) (m_X3_first σ a0 a1) = mm := by rw [ex2]; exact hm
  refine lv_istore (lv' := [(4, .int x2), (3, .int z1), (0, .ref (ad 9)), (1, .ref (ad (19 + a0))), (2, .int a1)]) hx hb dX3_withRegisterWord_9 hl (by decide) rfl (fun ls hl => ?_)
  refine lv_aload_n hx hb dX3_withRegisterWord_11 rfl (lv_at hl 3 rfl) ?_
  refine lv_iload_n hx hb dX3_withRegisterWord_12 rfl (lv_at hl 4 rfl) ?_
  obtain ⟨z3, qz3⟩ : ∃ t : Int64, t = m_X3_first σ a0 a1 := ⟨_, rfl⟩
  have hm : (fun (x4 : Int32) => (fun (z5 : Int64) => (fun (x6 : Int32) => (if x2 = 1 then (if z1 = 0 then m_X3_withRegisterWord_42  σ a0 a1 z1 x4 x6 else (if z1 < 4 then m_X3_withRegisterWord_56  σ a0 a1 z1 x2 x4 x6 else m_X3_withRegisterWord_42  σ a0 a1 z1 x4 x6)) else m_X3_withRegisterWord_56  σ a0 a1 z1 x2 x4 x6)) (z5.toInt32)) (m_X3_second σ a0 a1)) (z3.toInt32) = mm := by rw [qz3]; exact hm
  have hc : eb_M l yX3_first (Cond.code yX3_first cX3_first 2 (some .long) :: wsL_law) 1 21 D 33 cy cL ad σ [.ref (ad (19 + a0)), .int a1] (some (.long z3)) σ := by rw [qz3]; exact c_X3_first l D cy ad σ a0 a1 (by omega)
  refine eb_callS (n := 2) X hw hl.1 (rest := []) hc (eb_goodS wi_16_1 wi_16_2 wi_2_11 wi_16_3) rfl (by decide +kernel) ⟨by decide, by decide⟩ rfl rfl (Nat.le_of_ble_eq_true rfl) dX3_withRegisterWord_13 ⟨by decide, by decide⟩ (st' := [.long z3]) rfl (fun H locs hw => ?_)
  refine lv_l2i (v := z3.toInt32) hx hb dX3_withRegisterWord_16 rfl ?_
  refine lv_topi (fun x4 ex4 => ?_)
  have hm : (fun (z5 : Int64) => (fun (x6 : Int32) => (if x2 = 1 then (if z1 = 0 then m_X3_withRegisterWord_42  σ a0 a1 z1 x4 x6 else (if z1 < 4 then m_X3_withRegisterWord_56  σ a0 a1 z1 x2 x4 x6 else m_X3_withRegisterWord_42  σ a0 a1 z1 x4 x6)) else m_X3_withRegisterWord_56  σ a0 a1 z1 x2 x4 x6)) (z5.toInt32)) (m_X3_second σ a0 a1) = mm := by rw [ex4]; exact hm
  refine lv_istore (lv' := [(5, .int x4), (4, .int x2), (3, .int z1), (0, .ref (ad 9)), (1, .ref (ad (19 + a0))), (2, .int a1)]) hx hb dX3_withRegisterWord_17 hl (by decide) rfl (fun ls hl => ?_)
  refine lv_aload_n hx hb dX3_withRegisterWord_19 rfl (lv_at hl 4 rfl) ?_
  refine lv_iload_n hx hb dX3_withRegisterWord_20 rfl (lv_at hl 5 rfl) ?_
  obtain ⟨z5, qz5⟩ : ∃ t : Int64, t = m_X3_second σ a0 a1 := ⟨_, rfl⟩
  have hm : (fun (x6 : Int32) => (if x2 = 1 then (if z1 = 0 then m_X3_withRegisterWord_42  σ a0 a1 z1 x4 x6 else (if z1 < 4 then m_X3_withRegisterWord_56  σ a0 a1 z1 x2 x4 x6 else m_X3_withRegisterWord_42  σ a0 a1 z1 x4 x6)) else m_X3_withRegisterWord_56  σ a0 a1 z1 x2 x4 x6)) (z5.toInt32) = mm := by rw [qz5]; exact hm
  have hc : eb_M l yX3_second (Cond.code yX3_second cX3_second 2 (some .long) :: wsL_law) 1 21 D 33 cy cL ad σ [.ref (ad (19 + a0)), .int a1] (some (.long z5)) σ := by rw [qz5]; exact c_X3_second l D cy ad σ a0 a1 (by omega)
  refine eb_callS (n := 2) X hw hl.1 (rest := []) hc (eb_goodS wi_17_15 wi_17_16 wi_2_11 wi_17_17) rfl (by decide +kernel) ⟨by decide, by decide⟩ rfl rfl (Nat.le_of_ble_eq_true rfl) dX3_withRegisterWord_21 ⟨by decide, by decide⟩ (st' := [.long z5]) rfl (fun H locs hw => ?_)
  refine lv_l2i (v := z5.toInt32) hx hb dX3_withRegisterWord_24 rfl ?_
  refine lv_topi (fun x6 ex6 => ?_)
  have hm : (if x2 = 1 then (if z1 = 0 then m_X3_withRegisterWord_42  σ a0 a1 z1 x4 x6 else (if z1 < 4 then m_X3_withRegisterWord_56  σ a0 a1 z1 x2 x4 x6 else m_X3_withRegisterWord_42  σ a0 a1 z1 x4 x6)) else m_X3_withRegisterWord_56  σ a0 a1 z1 x2 x4 x6) = mm := by rw [ex6]; exact hm
  refine lv_istore (lv' := [(6, .int x6), (5, .int x4), (4, .int x2), (3, .int z1), (0, .ref (ad 9)), (1, .ref (ad (19 + a0))), (2, .int a1)]) hx hb dX3_withRegisterWord_25 hl (by decide) rfl (fun ls hl => ?_)
  refine lv_iload hx hb dX3_withRegisterWord_27 (lv_at hl 2 rfl) ?_
  refine lv_iconst (v := 1) hx hb dX3_withRegisterWord_29 (by decide) ?_
  refine lv_icmp_ne (tgt := 56) hx hb dX3_withRegisterWord_30 (by decide) (fun h7 => ?_) (fun h7 => ?_)
  · have hm := (if_neg h7).symm.trans hm
    exact k_X3_withRegisterWord_56 X   σ a0 a1 z1 x2 x4 x6 (by omega) hm hw (lv_sub hl [4, 5, 6, 3, 2, 1, 0] rfl)
  · have hm := (if_pos h7).symm.trans hm
    refine lv_iload_n hx hb dX3_withRegisterWord_33 rfl (lv_at hl 3 rfl) ?_
    refine lv_if_eq (tgt := 42) hx hb dX3_withRegisterWord_34 (by decide) (fun h8 => ?_) (fun h8 => ?_)
    · have hm := (if_pos h8).symm.trans hm
      exact k_X3_withRegisterWord_42 X   σ a0 a1 z1 x4 x6 (by omega) hm hw (lv_sub hl [5, 6, 3, 1, 0] rfl)
    · have hm := (if_neg h8).symm.trans hm
      refine lv_iload_n hx hb dX3_withRegisterWord_37 rfl (lv_at hl 3 rfl) ?_
      refine lv_iconst (v := 4) hx hb dX3_withRegisterWord_38 (by decide) ?_
      refine lv_icmp_lt (tgt := 56) hx hb dX3_withRegisterWord_39 (by decide) (fun h9 => ?_) (fun h9 => ?_)
      · have hm := (if_pos h9).symm.trans hm
        exact k_X3_withRegisterWord_56 X   σ a0 a1 z1 x2 x4 x6 (by omega) hm hw (lv_sub hl [4, 5, 6, 3, 2, 1, 0] rfl)
      · have hm := (if_neg h9).symm.trans hm
        exact k_X3_withRegisterWord_42 X   σ a0 a1 z1 x4 x6 (by omega) hm hw (lv_sub hl [5, 6, 3, 1, 0] rfl)

set_option maxHeartbeats 4000000 in
set_option maxRecDepth 100000 in
theorem c_X3_branch (l : Launch) (D : va_G) (cy : Nat → ClassId) (ad : Nat → Nat) (σ : eb_St) (a0 : Nat) (a1 : Int32) (ba0 : a0 < 7) : eb_M l yX3_branch (Cond.code yX3_branch cX3_branch 6 (some .int) :: wsL_law) 3 70 D 33 cy cL ad σ [.ref (ad 9), .ref (ad (19 + a0)), .int a1] (some (.int (m_X3_branch σ a0 a1).1)) ((m_X3_branch σ a0 a1).2) := by
  refine eb_start (own := RX3) (by decide) rfl rfl (Nat.le_of_ble_eq_true rfl) ?_
  intro p e s m args below meth c A ls X hw hl
  have hl : lv_has ls 6 [(0, .ref (ad 9)), (1, .ref (ad (19 + a0))), (2, .int a1)] := hl
  have hx := X.1.1
  have hb := X.1.2.1
  have hown := X.1.2.2.2.1
  have hts := X.1.2.2.2.2
  generalize hm : m_X3_branch σ a0 a1 = mm
  have hm : (fun (z1 : Int32) => (if z1 = 2 then (fun (z3 : Int32 × eb_St) => (z3.1, z3.2)) (m_X3_illegal σ a1) else (if z1 = 3 then (fun (z13 : Int32 × eb_St) => (z13.1, z13.2)) (m_X3_illegal σ a1) else (fun (z5 : Int64) => (fun (z6 : Int64) => (fun (z7 : Bool) => (if (eb_b z7) = 0 then ((-1), σ) else (fun (z9 : Int32) => (fun (x10 : Int64) => (if (x10 &&& 3) = 0 then ((-1), eb_pJ σ 9 5 x10) else (fun (z12 : Int32 × eb_St) => (z12.1, z12.2)) (m_X3_fault σ 0 x10))) ((σ.2 (19 + a0) 1) + z9.toInt64)) (m_X3_branchOffset a1))) (m_X0_holds z1 z5 z6)) (m_X3_second σ a0 a1)) (m_X3_first σ a0 a1)))) (m_X3_kind a1) = mm := hm
  refine lv_iload_n hx hb dX3_branch_0 rfl (lv_at hl 2 rfl) ?_
  obtain ⟨z1, qz1⟩ : ∃ t : Int32, t = m_X3_kind a1 := ⟨_, rfl⟩
  have hm : (if z1 = 2 then (fun (z3 : Int32 × eb_St) => (z3.1, z3.2)) (m_X3_illegal σ a1) else (if z1 = 3 then (fun (z13 : Int32 × eb_St) => (z13.1, z13.2)) (m_X3_illegal σ a1) else (fun (z5 : Int64) => (fun (z6 : Int64) => (fun (z7 : Bool) => (if (eb_b z7) = 0 then ((-1), σ) else (fun (z9 : Int32) => (fun (x10 : Int64) => (if (x10 &&& 3) = 0 then ((-1), eb_pJ σ 9 5 x10) else (fun (z12 : Int32 × eb_St) => (z12.1, z12.2)) (m_X3_fault σ 0 x10))) ((σ.2 (19 + a0) 1) + z9.toInt64)) (m_X3_branchOffset a1))) (m_X0_holds z1 z5 z6)) (m_X3_second σ a0 a1)) (m_X3_first σ a0 a1))) = mm := by rw [qz1]; exact hm
  have hc : eb_M l yX3_kind (Cond.code yX3_kind cX3_kind 1 (some .int) :: wsL_law) 0 0 D 33 cy cL ad σ [.int a1] (some (.int z1)) σ := by rw [qz1]; exact c_X3_kind l D cy ad σ a1
  refine eb_callS (n := 1) X hw hl.1 (rest := []) hc (eb_goodS wi_15_17 wi_15_18 wi_2_11 wi_15_19) rfl (by decide +kernel) ⟨by decide, by decide⟩ rfl rfl (Nat.le_of_ble_eq_true rfl) dX3_branch_1 ⟨by decide, by decide⟩ (st' := [.int z1]) rfl (fun H locs hw => ?_)
  refine lv_istore_n (lv' := [(3, .int z1), (0, .ref (ad 9)), (1, .ref (ad (19 + a0))), (2, .int a1)]) hx hb dX3_branch_4 rfl hl (by decide) rfl (fun ls hl => ?_)
  refine lv_iload_n hx hb dX3_branch_5 rfl (lv_at hl 0 rfl) ?_
  refine lv_iconst (v := 2) hx hb dX3_branch_6 (by decide) ?_
  refine lv_icmp_eq (tgt := 15) hx hb dX3_branch_7 (by decide) (fun h2 => ?_) (fun h2 => ?_)
  · have hm := (if_pos h2).symm.trans hm
    refine lv_aload_n hx hb dX3_branch_15 rfl (lv_at hl 1 rfl) ?_
    refine lv_iload_n hx hb dX3_branch_16 rfl (lv_at hl 3 rfl) ?_
    obtain ⟨z3, qz3⟩ : ∃ t : Int32 × eb_St, t = m_X3_illegal σ a1 := ⟨_, rfl⟩
    have hm : (z3.1, z3.2) = mm := by rw [qz3]; exact hm
    have hc : eb_M l yX3_illegal (Cond.code yX3_illegal cX3_illegal 2 (some .int) :: wsL_law) 1 23 D 33 cy cL ad σ [.ref (ad 9), .int a1] (some (.int z3.1)) z3.2 := by rw [qz3]; exact c_X3_illegal l D cy ad σ a1
    refine eb_callV (n := 1) (as := [.int a1]) (rest := []) X hw hl.1 9 hc (by decide) ⟨rfl, rfl, rfl⟩ (eb_goodV wi_15_20 wi_15_21 wi_15_22 wi_2_11 wi_15_23) rfl (by decide +kernel) ⟨by decide, by decide⟩ rfl rfl (Nat.le_of_ble_eq_true rfl) dX3_branch_17 ⟨by decide, by decide⟩ (st' := [.int z3.1]) rfl (fun H locs hw => ?_)
    subst hm
    exact eb_iret X hw rfl rfl rfl dX3_branch_20
  · have hm := (if_neg h2).symm.trans hm
    refine lv_iload_n hx hb dX3_branch_10 rfl (lv_at hl 0 rfl) ?_
    refine lv_iconst (v := 3) hx hb dX3_branch_11 (by decide) ?_
    refine lv_icmp_ne (tgt := 21) hx hb dX3_branch_12 (by decide) (fun h4 => ?_) (fun h4 => ?_)
    · have hm := (if_neg h4).symm.trans hm
      refine lv_iload_n hx hb dX3_branch_21 rfl (lv_at hl 0 rfl) ?_
      refine lv_aload_n hx hb dX3_branch_22 rfl (lv_at hl 2 rfl) ?_
      refine lv_iload_n hx hb dX3_branch_23 rfl (lv_at hl 3 rfl) ?_
      obtain ⟨z5, qz5⟩ : ∃ t : Int64, t = m_X3_first σ a0 a1 := ⟨_, rfl⟩
      have hm : (fun (z6 : Int64) => (fun (z7 : Bool) => (if (eb_b z7) = 0 then ((-1), σ) else (fun (z9 : Int32) => (fun (x10 : Int64) => (if (x10 &&& 3) = 0 then ((-1), eb_pJ σ 9 5 x10) else (fun (z12 : Int32 × eb_St) => (z12.1, z12.2)) (m_X3_fault σ 0 x10))) ((σ.2 (19 + a0) 1) + z9.toInt64)) (m_X3_branchOffset a1))) (m_X0_holds z1 z5 z6)) (m_X3_second σ a0 a1) = mm := by rw [qz5]; exact hm
      have hc : eb_M l yX3_first (Cond.code yX3_first cX3_first 2 (some .long) :: wsL_law) 1 21 D 33 cy cL ad σ [.ref (ad (19 + a0)), .int a1] (some (.long z5)) σ := by rw [qz5]; exact c_X3_first l D cy ad σ a0 a1 (by omega)
      refine eb_callS (n := 2) X hw hl.1 (rest := [.int z1]) hc (eb_goodS wi_16_1 wi_16_2 wi_2_11 wi_16_3) rfl (by decide +kernel) ⟨by decide, by decide⟩ rfl rfl (Nat.le_of_ble_eq_true rfl) dX3_branch_24 ⟨by decide, by decide⟩ (st' := [.long z5, .int z1]) rfl (fun H locs hw => ?_)
      refine lv_aload_n hx hb dX3_branch_27 rfl (lv_at hl 2 rfl) ?_
      refine lv_iload_n hx hb dX3_branch_28 rfl (lv_at hl 3 rfl) ?_
      obtain ⟨z6, qz6⟩ : ∃ t : Int64, t = m_X3_second σ a0 a1 := ⟨_, rfl⟩
      have hm : (fun (z7 : Bool) => (if (eb_b z7) = 0 then ((-1), σ) else (fun (z9 : Int32) => (fun (x10 : Int64) => (if (x10 &&& 3) = 0 then ((-1), eb_pJ σ 9 5 x10) else (fun (z12 : Int32 × eb_St) => (z12.1, z12.2)) (m_X3_fault σ 0 x10))) ((σ.2 (19 + a0) 1) + z9.toInt64)) (m_X3_branchOffset a1))) (m_X0_holds z1 z5 z6) = mm := by rw [qz6]; exact hm
      have hc : eb_M l yX3_second (Cond.code yX3_second cX3_second 2 (some .long) :: wsL_law) 1 21 D 33 cy cL ad σ [.ref (ad (19 + a0)), .int a1] (some (.long z6)) σ := by rw [qz6]; exact c_X3_second l D cy ad σ a0 a1 (by omega)
      refine eb_callS (n := 2) X hw hl.1 (rest := [.long z5, .int z1]) hc (eb_goodS wi_17_15 wi_17_16 wi_2_11 wi_17_17) rfl (by decide +kernel) ⟨by decide, by decide⟩ rfl rfl (Nat.le_of_ble_eq_true rfl) dX3_branch_29 ⟨by decide, by decide⟩ (st' := [.long z6, .long z5, .int z1]) rfl (fun H locs hw => ?_)
      obtain ⟨z7, qz7⟩ : ∃ t : Bool, t = m_X0_holds z1 z5 z6 := ⟨_, rfl⟩
      have hm : (if (eb_b z7) = 0 then ((-1), σ) else (fun (z9 : Int32) => (fun (x10 : Int64) => (if (x10 &&& 3) = 0 then ((-1), eb_pJ σ 9 5 x10) else (fun (z12 : Int32 × eb_St) => (z12.1, z12.2)) (m_X3_fault σ 0 x10))) ((σ.2 (19 + a0) 1) + z9.toInt64)) (m_X3_branchOffset a1)) = mm := by rw [qz7]; exact hm
      have hc : eb_M l yX0_holds (Cond.code yX0_holds cX0_holds 5 (some .boolean) :: wsL_law) 2 46 D 33 cy cL ad σ [.int z1, .long z5, .long z6] (some (.int (eb_b z7))) σ := by rw [qz7]; exact c_X0_holds l D cy ad σ z1 z5 z6
      refine eb_callS (n := 3) X hw hl.1 (rest := []) hc (eb_goodS wi_19_2 wi_19_3 wi_16_18 wi_19_4) rfl (by decide +kernel) ⟨by decide, by decide⟩ rfl rfl (Nat.le_of_ble_eq_true rfl) dX3_branch_32 ⟨by decide, by decide⟩ (st' := [.int (eb_b z7)]) rfl (fun H locs hw => ?_)
      refine lv_if_ne (tgt := 40) hx hb dX3_branch_35 (by decide) (fun h8 => ?_) (fun h8 => ?_)
      · have hm := (if_neg h8).symm.trans hm
        refine lv_aload_n hx hb dX3_branch_40 rfl (lv_at hl 2 rfl) ?_
        refine eb_get (T := TX7) X hw (19 + a0) 1 (by omega) (cR_i (by omega)) (by decide) (fun _ h => List.mem_cons_of_mem _ (inlX7 _ h)) (List.mem_cons_of_mem _ wi_14_15) (v := .long (σ.2 (19 + a0) 1)) (eb_sJ (cR_t (by omega) 1)) dX3_branch_41 ?_
        refine lv_iload_n hx hb dX3_branch_44 rfl (lv_at hl 3 rfl) ?_
        obtain ⟨z9, qz9⟩ : ∃ t : Int32, t = m_X3_branchOffset a1 := ⟨_, rfl⟩
        have hm : (fun (x10 : Int64) => (if (x10 &&& 3) = 0 then ((-1), eb_pJ σ 9 5 x10) else (fun (z12 : Int32 × eb_St) => (z12.1, z12.2)) (m_X3_fault σ 0 x10))) ((σ.2 (19 + a0) 1) + z9.toInt64) = mm := by rw [qz9]; exact hm
        have hc : eb_M l yX3_branchOffset (Cond.code yX3_branchOffset cX3_branchOffset 1 (some .int) :: wsL_law) 0 0 D 33 cy cL ad σ [.int a1] (some (.int z9)) σ := by rw [qz9]; exact c_X3_branchOffset l D cy ad σ a1
        refine eb_callS (n := 1) X hw hl.1 (rest := [.long (σ.2 (19 + a0) 1)]) hc (eb_goodS wi_19_5 wi_19_6 wi_2_11 wi_19_7) rfl (by decide +kernel) ⟨by decide, by decide⟩ rfl rfl (Nat.le_of_ble_eq_true rfl) dX3_branch_45 ⟨by decide, by decide⟩ (st' := [.int z9, .long (σ.2 (19 + a0) 1)]) rfl (fun H locs hw => ?_)
        refine lv_i2l (v := z9.toInt64) hx hb dX3_branch_48 rfl ?_
        refine lv_ladd hx hb dX3_branch_49 ?_
        refine lv_topl (fun x10 ex10 => ?_)
        have hm : (if (x10 &&& 3) = 0 then ((-1), eb_pJ σ 9 5 x10) else (fun (z12 : Int32 × eb_St) => (z12.1, z12.2)) (m_X3_fault σ 0 x10)) = mm := by rw [ex10]; exact hm
        refine lv_lstore (lv' := [(4, .long x10), (3, .int z1), (0, .ref (ad 9)), (1, .ref (ad (19 + a0))), (2, .int a1)]) hx hb dX3_branch_50 hl (by decide) rfl (fun ls hl => ?_)
        refine lv_lload hx hb dX3_branch_52 (lv_at hl 0 rfl) ?_
        refine lv_ldc2 hx hb hown (hts _ (List.mem_cons_of_mem _ wi_14_16)) dX3_branch_54 ?_
        refine lv_land hx hb dX3_branch_57 ?_
        refine lv_lconst (v := 0) hx hb dX3_branch_58 (by decide) ?_
        refine eb_lif_eq (tgt := 71) hx hb dX3_branch_59 dX3_branch_60 (by decide) (fun h11 => ?_) (fun h11 => ?_)
        · have hm := (if_pos h11).symm.trans hm
          refine lv_aload_n hx hb dX3_branch_71 rfl (lv_at hl 2 rfl) ?_
          refine lv_lload hx hb dX3_branch_72 (lv_at hl 0 rfl) ?_
          refine eb_putJ (T := TX3) X hw 9 5 (by decide) ⟨rfl, rfl, rfl⟩ (by decide) rfl (fun _ h => List.mem_cons_of_mem _ (inlX3 _ h)) (List.mem_cons_of_mem _ wi_14_18) tyX3 tyX3_ok nmX3 rfl rfl rfl dX3_branch_74 (fun H locs hw => ?_)
          refine lv_iconst (v := (-1)) hx hb dX3_branch_77 (by decide) ?_
          subst hm
          exact eb_iret X hw rfl rfl rfl dX3_branch_78
        · have hm := (if_neg h11).symm.trans hm
          refine lv_aload_n hx hb dX3_branch_63 rfl (lv_at hl 2 rfl) ?_
          refine lv_iconst (v := 0) hx hb dX3_branch_64 (by decide) ?_
          refine lv_lload hx hb dX3_branch_65 (lv_at hl 0 rfl) ?_
          obtain ⟨z12, qz12⟩ : ∃ t : Int32 × eb_St, t = m_X3_fault σ 0 x10 := ⟨_, rfl⟩
          have hm : (z12.1, z12.2) = mm := by rw [qz12]; exact hm
          have hc : eb_M l yX3_fault (Cond.code yX3_fault cX3_fault 4 (some .int) :: wsL_law) 0 0 D 33 cy cL ad σ [.ref (ad 9), .int 0, .long x10] (some (.int z12.1)) z12.2 := by rw [qz12]; exact c_X3_fault l D cy ad σ 0 x10
          refine eb_callV (n := 2) (as := [.int 0, .long x10]) (rest := []) X hw hl.1 9 hc (by decide) ⟨rfl, rfl, rfl⟩ (eb_goodV wi_14_19 wi_14_20 wi_14_21 wi_2_11 wi_14_22) rfl (by decide +kernel) ⟨by decide, by decide⟩ rfl rfl (Nat.le_of_ble_eq_true rfl) dX3_branch_67 ⟨by decide, by decide⟩ (st' := [.int z12.1]) rfl (fun H locs hw => ?_)
          subst hm
          exact eb_iret X hw rfl rfl rfl dX3_branch_70
      · have hm := (if_pos h8).symm.trans hm
        refine lv_iconst (v := (-1)) hx hb dX3_branch_38 (by decide) ?_
        subst hm
        exact eb_iret X hw rfl rfl rfl dX3_branch_39
    · have hm := (if_pos h4).symm.trans hm
      refine lv_aload_n hx hb dX3_branch_15 rfl (lv_at hl 1 rfl) ?_
      refine lv_iload_n hx hb dX3_branch_16 rfl (lv_at hl 3 rfl) ?_
      obtain ⟨z13, qz13⟩ : ∃ t : Int32 × eb_St, t = m_X3_illegal σ a1 := ⟨_, rfl⟩
      have hm : (z13.1, z13.2) = mm := by rw [qz13]; exact hm
      have hc : eb_M l yX3_illegal (Cond.code yX3_illegal cX3_illegal 2 (some .int) :: wsL_law) 1 23 D 33 cy cL ad σ [.ref (ad 9), .int a1] (some (.int z13.1)) z13.2 := by rw [qz13]; exact c_X3_illegal l D cy ad σ a1
      refine eb_callV (n := 1) (as := [.int a1]) (rest := []) X hw hl.1 9 hc (by decide) ⟨rfl, rfl, rfl⟩ (eb_goodV wi_15_20 wi_15_21 wi_15_22 wi_2_11 wi_15_23) rfl (by decide +kernel) ⟨by decide, by decide⟩ rfl rfl (Nat.le_of_ble_eq_true rfl) dX3_branch_17 ⟨by decide, by decide⟩ (st' := [.int z13.1]) rfl (fun H locs hw => ?_)
      subst hm
      exact eb_iret X hw rfl rfl rfl dX3_branch_20

set_option maxHeartbeats 4000000 in
set_option maxRecDepth 100000 in
theorem c_X3_jump (l : Launch) (D : va_G) (cy : Nat → ClassId) (ad : Nat → Nat) (σ : eb_St) (a0 : Nat) (a1 : Int32) (a2 : Int64) (ba0 : a0 < 7) : eb_M l yX3_jump (Cond.code yX3_jump cX3_jump 5 (some .int) :: wsL_law) 2 46 D 33 cy cL ad σ [.ref (ad 9), .ref (ad (19 + a0)), .int a1, .long a2] (some (.int (m_X3_jump σ a0 a1 a2).1)) ((m_X3_jump σ a0 a1 a2).2) := by
  refine eb_start (own := RX3) (by decide) rfl rfl (Nat.le_of_ble_eq_true rfl) ?_
  intro p e s m args below meth c A ls X hw hl
  have hl : lv_has ls 5 [(0, .ref (ad 9)), (1, .ref (ad (19 + a0))), (2, .int a1), (3, .long a2)] := hl
  have hx := X.1.1
  have hb := X.1.2.1
  have hown := X.1.2.2.2.1
  have hts := X.1.2.2.2.2
  generalize hm : m_X3_jump σ a0 a1 a2 = mm
  have hm : (if (a2 &&& 3) = 0 then (fun (z2 : Int32 × eb_St) => (z2.1, z2.2)) (m_X3_finish (eb_pJ σ 9 5 a2) a0 a1 (((eb_pJ σ 9 5 a2).2 (19 + a0) 1) + 4)) else (fun (z3 : Int32 × eb_St) => (z3.1, z3.2)) (m_X3_fault σ 0 a2)) = mm := hm
  refine lv_lload_n hx hb dX3_jump_0 rfl (lv_at hl 3 rfl) ?_
  refine lv_ldc2 hx hb hown (hts _ (List.mem_cons_of_mem _ wi_14_16)) dX3_jump_1 ?_
  refine lv_land hx hb dX3_jump_4 ?_
  refine lv_lconst (v := 0) hx hb dX3_jump_5 (by decide) ?_
  refine eb_lif_eq (tgt := 17) hx hb dX3_jump_6 dX3_jump_7 (by decide) (fun h1 => ?_) (fun h1 => ?_)
  · have hm := (if_pos h1).symm.trans hm
    refine lv_aload_n hx hb dX3_jump_17 rfl (lv_at hl 0 rfl) ?_
    refine lv_lload_n hx hb dX3_jump_18 rfl (lv_at hl 3 rfl) ?_
    refine eb_putJ (T := TX3) X hw 9 5 (by decide) ⟨rfl, rfl, rfl⟩ (by decide) rfl (fun _ h => List.mem_cons_of_mem _ (inlX3 _ h)) (List.mem_cons_of_mem _ wi_14_18) tyX3 tyX3_ok nmX3 rfl rfl rfl dX3_jump_19 (fun H locs hw => ?_)
    refine lv_aload_n hx hb dX3_jump_22 rfl (lv_at hl 1 rfl) ?_
    refine lv_iload_n hx hb dX3_jump_23 rfl (lv_at hl 2 rfl) ?_
    refine lv_aload_n hx hb dX3_jump_24 rfl (lv_at hl 1 rfl) ?_
    refine eb_get (T := TX7) X hw (19 + a0) 1 (by omega) (cR_i (by omega)) (by decide) (fun _ h => List.mem_cons_of_mem _ (inlX7 _ h)) (List.mem_cons_of_mem _ wi_14_15) (v := .long ((eb_pJ σ 9 5 a2).2 (19 + a0) 1)) (eb_sJ (cR_t (by omega) 1)) dX3_jump_25 ?_
    refine lv_ldc2 hx hb hown (hts _ (List.mem_cons_of_mem _ wi_14_17)) dX3_jump_28 ?_
    refine lv_ladd hx hb dX3_jump_31 ?_
    obtain ⟨z2, qz2⟩ : ∃ t : Int32 × eb_St, t = m_X3_finish (eb_pJ σ 9 5 a2) a0 a1 (((eb_pJ σ 9 5 a2).2 (19 + a0) 1) + 4) := ⟨_, rfl⟩
    have hm : (z2.1, z2.2) = mm := by rw [qz2]; exact hm
    have hc : eb_M l yX3_finish (Cond.code yX3_finish cX3_finish 4 (some .int) :: wsL_law) 1 23 D 33 cy cL ad (eb_pJ σ 9 5 a2) [.ref (ad (19 + a0)), .int a1, .long (((eb_pJ σ 9 5 a2).2 (19 + a0) 1) + 4)] (some (.int z2.1)) z2.2 := by rw [qz2]; exact c_X3_finish l D cy ad (eb_pJ σ 9 5 a2) a0 a1 (((eb_pJ σ 9 5 a2).2 (19 + a0) 1) + 4) (by omega)
    refine eb_callS (n := 3) X hw hl.1 (rest := []) hc (eb_goodS wi_16_8 wi_16_9 wi_2_11 wi_16_10) rfl (by decide +kernel) ⟨by decide, by decide⟩ rfl rfl (Nat.le_of_ble_eq_true rfl) dX3_jump_32 ⟨by decide, by decide⟩ (st' := [.int z2.1]) rfl (fun H locs hw => ?_)
    subst hm
    exact eb_iret X hw rfl rfl rfl dX3_jump_35
  · have hm := (if_neg h1).symm.trans hm
    refine lv_aload_n hx hb dX3_jump_10 rfl (lv_at hl 0 rfl) ?_
    refine lv_iconst (v := 0) hx hb dX3_jump_11 (by decide) ?_
    refine lv_lload_n hx hb dX3_jump_12 rfl (lv_at hl 3 rfl) ?_
    obtain ⟨z3, qz3⟩ : ∃ t : Int32 × eb_St, t = m_X3_fault σ 0 a2 := ⟨_, rfl⟩
    have hm : (z3.1, z3.2) = mm := by rw [qz3]; exact hm
    have hc : eb_M l yX3_fault (Cond.code yX3_fault cX3_fault 4 (some .int) :: wsL_law) 0 0 D 33 cy cL ad σ [.ref (ad 9), .int 0, .long a2] (some (.int z3.1)) z3.2 := by rw [qz3]; exact c_X3_fault l D cy ad σ 0 a2
    refine eb_callV (n := 2) (as := [.int 0, .long a2]) (rest := []) X hw hl.1 9 hc (by decide) ⟨rfl, rfl, rfl⟩ (eb_goodV wi_14_19 wi_14_20 wi_14_21 wi_2_11 wi_14_22) rfl (by decide +kernel) ⟨by decide, by decide⟩ rfl rfl (Nat.le_of_ble_eq_true rfl) dX3_jump_13 ⟨by decide, by decide⟩ (st' := [.int z3.1]) rfl (fun H locs hw => ?_)
    subst hm
    exact eb_iret X hw rfl rfl rfl dX3_jump_16

set_option maxHeartbeats 4000000 in
set_option maxRecDepth 100000 in
theorem c_X3_jumpByRegister (l : Launch) (D : va_G) (cy : Nat → ClassId) (ad : Nat → Nat) (σ : eb_St) (a0 : Nat) (a1 : Int32) (ba0 : a0 < 7) : eb_M l yX3_jumpByRegister (Cond.code yX3_jumpByRegister cX3_jumpByRegister 3 (some .int) :: wsL_law) 3 70 D 33 cy cL ad σ [.ref (ad 9), .ref (ad (19 + a0)), .int a1] (some (.int (m_X3_jumpByRegister σ a0 a1).1)) ((m_X3_jumpByRegister σ a0 a1).2) := by
  refine eb_start (own := RX3) (by decide) rfl rfl (Nat.le_of_ble_eq_true rfl) ?_
  intro p e s m args below meth c A ls X hw hl
  have hl : lv_has ls 3 [(0, .ref (ad 9)), (1, .ref (ad (19 + a0))), (2, .int a1)] := hl
  have hx := X.1.1
  have hb := X.1.2.1
  have hown := X.1.2.2.2.1
  have hts := X.1.2.2.2.2
  generalize hm : m_X3_jumpByRegister σ a0 a1 = mm
  have hm : (fun (z1 : Int32) => (if z1 = 0 then (fun (z3 : Int64) => (fun (z4 : Int32 × eb_St) => (z4.1, z4.2)) (m_X3_jump σ a0 a1 ((z3 + ((a1 >>> (20 &&& 31)).toInt64)) &&& (-2)))) (m_X3_first σ a0 a1) else (fun (z5 : Int32 × eb_St) => (z5.1, z5.2)) (m_X3_illegal σ a1))) (m_X3_kind a1) = mm := hm
  refine lv_iload_n hx hb dX3_jumpByRegister_0 rfl (lv_at hl 2 rfl) ?_
  obtain ⟨z1, qz1⟩ : ∃ t : Int32, t = m_X3_kind a1 := ⟨_, rfl⟩
  have hm : (if z1 = 0 then (fun (z3 : Int64) => (fun (z4 : Int32 × eb_St) => (z4.1, z4.2)) (m_X3_jump σ a0 a1 ((z3 + ((a1 >>> (20 &&& 31)).toInt64)) &&& (-2)))) (m_X3_first σ a0 a1) else (fun (z5 : Int32 × eb_St) => (z5.1, z5.2)) (m_X3_illegal σ a1)) = mm := by rw [qz1]; exact hm
  have hc : eb_M l yX3_kind (Cond.code yX3_kind cX3_kind 1 (some .int) :: wsL_law) 0 0 D 33 cy cL ad σ [.int a1] (some (.int z1)) σ := by rw [qz1]; exact c_X3_kind l D cy ad σ a1
  refine eb_callS (n := 1) X hw hl.1 (rest := []) hc (eb_goodS wi_15_17 wi_15_18 wi_2_11 wi_15_19) rfl (by decide +kernel) ⟨by decide, by decide⟩ rfl rfl (Nat.le_of_ble_eq_true rfl) dX3_jumpByRegister_1 ⟨by decide, by decide⟩ (st' := [.int z1]) rfl (fun H locs hw => ?_)
  refine lv_if_eq (tgt := 13) hx hb dX3_jumpByRegister_4 (by decide) (fun h2 => ?_) (fun h2 => ?_)
  · have hm := (if_pos h2).symm.trans hm
    refine lv_aload_n hx hb dX3_jumpByRegister_13 rfl (lv_at hl 0 rfl) ?_
    refine lv_aload_n hx hb dX3_jumpByRegister_14 rfl (lv_at hl 1 rfl) ?_
    refine lv_iload_n hx hb dX3_jumpByRegister_15 rfl (lv_at hl 2 rfl) ?_
    refine lv_aload_n hx hb dX3_jumpByRegister_16 rfl (lv_at hl 1 rfl) ?_
    refine lv_iload_n hx hb dX3_jumpByRegister_17 rfl (lv_at hl 2 rfl) ?_
    obtain ⟨z3, qz3⟩ : ∃ t : Int64, t = m_X3_first σ a0 a1 := ⟨_, rfl⟩
    have hm : (fun (z4 : Int32 × eb_St) => (z4.1, z4.2)) (m_X3_jump σ a0 a1 ((z3 + ((a1 >>> (20 &&& 31)).toInt64)) &&& (-2))) = mm := by rw [qz3]; exact hm
    have hc : eb_M l yX3_first (Cond.code yX3_first cX3_first 2 (some .long) :: wsL_law) 1 21 D 33 cy cL ad σ [.ref (ad (19 + a0)), .int a1] (some (.long z3)) σ := by rw [qz3]; exact c_X3_first l D cy ad σ a0 a1 (by omega)
    refine eb_callS (n := 2) X hw hl.1 (rest := [.int a1, .ref (ad (19 + a0)), .ref (ad 9)]) hc (eb_goodS wi_16_1 wi_16_2 wi_2_11 wi_16_3) rfl (by decide +kernel) ⟨by decide, by decide⟩ rfl rfl (Nat.le_of_ble_eq_true rfl) dX3_jumpByRegister_18 ⟨by decide, by decide⟩ (st' := [.long z3, .int a1, .ref (ad (19 + a0)), .ref (ad 9)]) rfl (fun H locs hw => ?_)
    refine lv_iload_n hx hb dX3_jumpByRegister_21 rfl (lv_at hl 2 rfl) ?_
    refine lv_bipush (v := 20) hx hb dX3_jumpByRegister_22 (by decide) ?_
    refine lv_ishr hx hb dX3_jumpByRegister_24 ?_
    refine lv_i2l (v := (a1 >>> (20 &&& 31)).toInt64) hx hb dX3_jumpByRegister_25 rfl ?_
    refine lv_ladd hx hb dX3_jumpByRegister_26 ?_
    refine lv_ldc2 hx hb hown (hts _ (List.mem_cons_of_mem _ wi_19_12)) dX3_jumpByRegister_27 ?_
    refine lv_land hx hb dX3_jumpByRegister_30 ?_
    obtain ⟨z4, qz4⟩ : ∃ t : Int32 × eb_St, t = m_X3_jump σ a0 a1 ((z3 + ((a1 >>> (20 &&& 31)).toInt64)) &&& (-2)) := ⟨_, rfl⟩
    have hm : (z4.1, z4.2) = mm := by rw [qz4]; exact hm
    have hc : eb_M l yX3_jump (Cond.code yX3_jump cX3_jump 5 (some .int) :: wsL_law) 2 46 D 33 cy cL ad σ [.ref (ad 9), .ref (ad (19 + a0)), .int a1, .long ((z3 + ((a1 >>> (20 &&& 31)).toInt64)) &&& (-2))] (some (.int z4.1)) z4.2 := by rw [qz4]; exact c_X3_jump l D cy ad σ a0 a1 ((z3 + ((a1 >>> (20 &&& 31)).toInt64)) &&& (-2)) (by omega)
    refine eb_callV (n := 3) (as := [.ref (ad (19 + a0)), .int a1, .long ((z3 + ((a1 >>> (20 &&& 31)).toInt64)) &&& (-2))]) (rest := []) X hw hl.1 9 hc (by decide) ⟨rfl, rfl, rfl⟩ (eb_goodV wi_19_13 wi_19_14 wi_19_15 wi_2_11 wi_19_16) rfl (by decide +kernel) ⟨by decide, by decide⟩ rfl rfl (Nat.le_of_ble_eq_true rfl) dX3_jumpByRegister_31 ⟨by decide, by decide⟩ (st' := [.int z4.1]) rfl (fun H locs hw => ?_)
    subst hm
    exact eb_iret X hw rfl rfl rfl dX3_jumpByRegister_34
  · have hm := (if_neg h2).symm.trans hm
    refine lv_aload_n hx hb dX3_jumpByRegister_7 rfl (lv_at hl 0 rfl) ?_
    refine lv_iload_n hx hb dX3_jumpByRegister_8 rfl (lv_at hl 2 rfl) ?_
    obtain ⟨z5, qz5⟩ : ∃ t : Int32 × eb_St, t = m_X3_illegal σ a1 := ⟨_, rfl⟩
    have hm : (z5.1, z5.2) = mm := by rw [qz5]; exact hm
    have hc : eb_M l yX3_illegal (Cond.code yX3_illegal cX3_illegal 2 (some .int) :: wsL_law) 1 23 D 33 cy cL ad σ [.ref (ad 9), .int a1] (some (.int z5.1)) z5.2 := by rw [qz5]; exact c_X3_illegal l D cy ad σ a1
    refine eb_callV (n := 1) (as := [.int a1]) (rest := []) X hw hl.1 9 hc (by decide) ⟨rfl, rfl, rfl⟩ (eb_goodV wi_15_20 wi_15_21 wi_15_22 wi_2_11 wi_15_23) rfl (by decide +kernel) ⟨by decide, by decide⟩ rfl rfl (Nat.le_of_ble_eq_true rfl) dX3_jumpByRegister_9 ⟨by decide, by decide⟩ (st' := [.int z5.1]) rfl (fun H locs hw => ?_)
    subst hm
    exact eb_iret X hw rfl rfl rfl dX3_jumpByRegister_12

set_option maxHeartbeats 4000000 in
set_option maxRecDepth 100000 in
theorem c_X3_environment (l : Launch) (D : va_G) (cy : Nat → ClassId) (ad : Nat → Nat) (σ : eb_St) (a0 : Nat) (a1 : Int32) (ba0 : a0 < 7) : eb_M l yX3_environment (Cond.code yX3_environment cX3_environment 3 (some .int) :: wsL_law) 2 44 D 33 cy cL ad σ [.ref (ad 9), .ref (ad (19 + a0)), .int a1] (some (.int (m_X3_environment σ a0 a1).1)) ((m_X3_environment σ a0 a1).2) := by
  refine eb_start (own := RX3) (by decide) rfl rfl (Nat.le_of_ble_eq_true rfl) ?_
  intro p e s m args below meth c A ls X hw hl
  have hl : lv_has ls 3 [(0, .ref (ad 9)), (1, .ref (ad (19 + a0))), (2, .int a1)] := hl
  have hx := X.1.1
  have hb := X.1.2.1
  have hown := X.1.2.2.2.1
  have hts := X.1.2.2.2.2
  generalize hm : m_X3_environment σ a0 a1 = mm
  have hm : (if a1 = 115 then (fun (z2 : Int32 × eb_St) => (z2.1, z2.2)) (m_X3_fault σ 11 0) else if a1 = 1048691 then (fun (z4 : Int32 × eb_St) => (z4.1, z4.2)) (m_X3_fault σ 3 (σ.2 (19 + a0) 1)) else if a1 = 273678451 then ((-1), σ) else if a1 = 807403635 then (if (σ.1 9 3) = 3 then (fun (z9 : Int32 × eb_St) => (z9.1, z9.2)) (m_X3_returnFromM σ) else (fun (z8 : Int32 × eb_St) => (z8.1, z8.2)) (m_X3_illegal σ a1)) else (fun (z10 : Int32 × eb_St) => (z10.1, z10.2)) (m_X3_illegal σ a1)) = mm := hm
  refine lv_iload_n hx hb dX3_environment_0 rfl (lv_at hl 2 rfl) ?_
  by_cases h1 : a1 = 115
  · have hm := (if_pos h1).symm.trans hm
    refine lv_lookup (off := 43) (tgt := 44) hx hb dX3_environment_1 (by decide) (by rw [h1]; decide) (by decide) ?_
    refine lv_aload_n hx hb dX3_environment_44 rfl (lv_at hl 0 rfl) ?_
    refine lv_bipush (v := 11) hx hb dX3_environment_45 (by decide) ?_
    refine lv_lconst (v := 0) hx hb dX3_environment_47 (by decide) ?_
    obtain ⟨z2, qz2⟩ : ∃ t : Int32 × eb_St, t = m_X3_fault σ 11 0 := ⟨_, rfl⟩
    have hm : (z2.1, z2.2) = mm := by rw [qz2]; exact hm
    have hc : eb_M l yX3_fault (Cond.code yX3_fault cX3_fault 4 (some .int) :: wsL_law) 0 0 D 33 cy cL ad σ [.ref (ad 9), .int 11, .long 0] (some (.int z2.1)) z2.2 := by rw [qz2]; exact c_X3_fault l D cy ad σ 11 0
    refine eb_callV (n := 2) (as := [.int 11, .long 0]) (rest := []) X hw hl.1 9 hc (by decide) ⟨rfl, rfl, rfl⟩ (eb_goodV wi_14_19 wi_14_20 wi_14_21 wi_2_11 wi_14_22) rfl (by decide +kernel) ⟨by decide, by decide⟩ rfl rfl (Nat.le_of_ble_eq_true rfl) dX3_environment_48 ⟨by decide, by decide⟩ (st' := [.int z2.1]) rfl (fun H locs hw => ?_)
    subst hm
    exact eb_iret X hw rfl rfl rfl dX3_environment_51
  · have hm := (if_neg h1).symm.trans hm
    by_cases h3 : a1 = 1048691
    · have hm := (if_pos h3).symm.trans hm
      refine lv_lookup (off := 51) (tgt := 52) hx hb dX3_environment_1 (by decide) (by rw [h3]; decide) (by decide) ?_
      refine lv_aload_n hx hb dX3_environment_52 rfl (lv_at hl 0 rfl) ?_
      refine lv_iconst (v := 3) hx hb dX3_environment_53 (by decide) ?_
      refine lv_aload_n hx hb dX3_environment_54 rfl (lv_at hl 1 rfl) ?_
      refine eb_get (T := TX7) X hw (19 + a0) 1 (by omega) (cR_i (by omega)) (by decide) (fun _ h => List.mem_cons_of_mem _ (inlX7 _ h)) (List.mem_cons_of_mem _ wi_14_15) (v := .long (σ.2 (19 + a0) 1)) (eb_sJ (cR_t (by omega) 1)) dX3_environment_55 ?_
      obtain ⟨z4, qz4⟩ : ∃ t : Int32 × eb_St, t = m_X3_fault σ 3 (σ.2 (19 + a0) 1) := ⟨_, rfl⟩
      have hm : (z4.1, z4.2) = mm := by rw [qz4]; exact hm
      have hc : eb_M l yX3_fault (Cond.code yX3_fault cX3_fault 4 (some .int) :: wsL_law) 0 0 D 33 cy cL ad σ [.ref (ad 9), .int 3, .long (σ.2 (19 + a0) 1)] (some (.int z4.1)) z4.2 := by rw [qz4]; exact c_X3_fault l D cy ad σ 3 (σ.2 (19 + a0) 1)
      refine eb_callV (n := 2) (as := [.int 3, .long (σ.2 (19 + a0) 1)]) (rest := []) X hw hl.1 9 hc (by decide) ⟨rfl, rfl, rfl⟩ (eb_goodV wi_14_19 wi_14_20 wi_14_21 wi_2_11 wi_14_22) rfl (by decide +kernel) ⟨by decide, by decide⟩ rfl rfl (Nat.le_of_ble_eq_true rfl) dX3_environment_58 ⟨by decide, by decide⟩ (st' := [.int z4.1]) rfl (fun H locs hw => ?_)
      subst hm
      exact eb_iret X hw rfl rfl rfl dX3_environment_61
    · have hm := (if_neg h3).symm.trans hm
      by_cases h5 : a1 = 273678451
      · have hm := (if_pos h5).symm.trans hm
        refine lv_lookup (off := 61) (tgt := 62) hx hb dX3_environment_1 (by decide) (by rw [h5]; decide) (by decide) ?_
        refine lv_iconst (v := (-1)) hx hb dX3_environment_62 (by decide) ?_
        subst hm
        exact eb_iret X hw rfl rfl rfl dX3_environment_63
      · have hm := (if_neg h5).symm.trans hm
        by_cases h6 : a1 = 807403635
        · have hm := (if_pos h6).symm.trans hm
          refine lv_lookup (off := 63) (tgt := 64) hx hb dX3_environment_1 (by decide) (by rw [h6]; decide) (by decide) ?_
          refine lv_aload_n hx hb dX3_environment_64 rfl (lv_at hl 0 rfl) ?_
          refine eb_get (T := TX3) X hw 9 3 (by decide) ⟨rfl, rfl, rfl⟩ (by decide) (fun _ h => List.mem_cons_of_mem _ (inlX3 _ h)) (List.mem_cons_of_mem _ wi_3_21) (v := .int (σ.1 9 3)) rfl dX3_environment_65 ?_
          refine lv_iconst (v := 3) hx hb dX3_environment_68 (by decide) ?_
          refine lv_icmp_ne (tgt := 79) hx hb dX3_environment_69 (by decide) (fun h7 => ?_) (fun h7 => ?_)
          · have hm := (if_neg h7).symm.trans hm
            refine lv_aload_n hx hb dX3_environment_79 rfl (lv_at hl 0 rfl) ?_
            refine lv_iload_n hx hb dX3_environment_80 rfl (lv_at hl 2 rfl) ?_
            obtain ⟨z8, qz8⟩ : ∃ t : Int32 × eb_St, t = m_X3_illegal σ a1 := ⟨_, rfl⟩
            have hm : (z8.1, z8.2) = mm := by rw [qz8]; exact hm
            have hc : eb_M l yX3_illegal (Cond.code yX3_illegal cX3_illegal 2 (some .int) :: wsL_law) 1 23 D 33 cy cL ad σ [.ref (ad 9), .int a1] (some (.int z8.1)) z8.2 := by rw [qz8]; exact c_X3_illegal l D cy ad σ a1
            refine eb_callV (n := 1) (as := [.int a1]) (rest := []) X hw hl.1 9 hc (by decide) ⟨rfl, rfl, rfl⟩ (eb_goodV wi_15_20 wi_15_21 wi_15_22 wi_2_11 wi_15_23) rfl (by decide +kernel) ⟨by decide, by decide⟩ rfl rfl (Nat.le_of_ble_eq_true rfl) dX3_environment_81 ⟨by decide, by decide⟩ (st' := [.int z8.1]) rfl (fun H locs hw => ?_)
            subst hm
            exact eb_iret X hw rfl rfl rfl dX3_environment_84
          · have hm := (if_pos h7).symm.trans hm
            refine lv_aload_n hx hb dX3_environment_72 rfl (lv_at hl 0 rfl) ?_
            obtain ⟨z9, qz9⟩ : ∃ t : Int32 × eb_St, t = m_X3_returnFromM σ := ⟨_, rfl⟩
            have hm : (z9.1, z9.2) = mm := by rw [qz9]; exact hm
            have hc : eb_M l yX3_returnFromM (Cond.code yX3_returnFromM cX3_returnFromM 1 (some .int) :: wsL_law) 0 0 D 33 cy cL ad σ [.ref (ad 9)] (some (.int z9.1)) z9.2 := by rw [qz9]; exact c_X3_returnFromM l D cy ad σ 
            refine eb_callV (n := 0) (as := []) (rest := []) X hw hl.1 9 hc (by decide) ⟨rfl, rfl, rfl⟩ (eb_goodV wi_20_1 wi_20_2 wi_20_3 wi_2_11 wi_20_4) rfl (by decide +kernel) ⟨by decide, by decide⟩ rfl rfl (Nat.le_of_ble_eq_true rfl) dX3_environment_73 ⟨by decide, by decide⟩ (st' := [.int z9.1]) rfl (fun H locs hw => ?_)
            refine lv_goto (tgt := 84) hx hb dX3_environment_76 (by decide) ?_
            subst hm
            exact eb_iret X hw rfl rfl rfl dX3_environment_84
        · have hm := (if_neg h6).symm.trans hm
          refine lv_lookup (off := 84) (tgt := 85) hx hb dX3_environment_1 (by decide) (by show Op.lookupswitch.offset [(115, 43), (1048691, 51), (273678451, 61), (807403635, 63)] _ _ = _; rw [lv_osw h1 (by decide)]; rw [lv_osw h3 (by decide)]; rw [lv_osw h5 (by decide)]; rw [lv_osw h6 (by decide)]; rfl) (by decide) ?_
          refine lv_aload_n hx hb dX3_environment_85 rfl (lv_at hl 0 rfl) ?_
          refine lv_iload_n hx hb dX3_environment_86 rfl (lv_at hl 2 rfl) ?_
          obtain ⟨z10, qz10⟩ : ∃ t : Int32 × eb_St, t = m_X3_illegal σ a1 := ⟨_, rfl⟩
          have hm : (z10.1, z10.2) = mm := by rw [qz10]; exact hm
          have hc : eb_M l yX3_illegal (Cond.code yX3_illegal cX3_illegal 2 (some .int) :: wsL_law) 1 23 D 33 cy cL ad σ [.ref (ad 9), .int a1] (some (.int z10.1)) z10.2 := by rw [qz10]; exact c_X3_illegal l D cy ad σ a1
          refine eb_callV (n := 1) (as := [.int a1]) (rest := []) X hw hl.1 9 hc (by decide) ⟨rfl, rfl, rfl⟩ (eb_goodV wi_15_20 wi_15_21 wi_15_22 wi_2_11 wi_15_23) rfl (by decide +kernel) ⟨by decide, by decide⟩ rfl rfl (Nat.le_of_ble_eq_true rfl) dX3_environment_87 ⟨by decide, by decide⟩ (st' := [.int z10.1]) rfl (fun H locs hw => ?_)
          subst hm
          exact eb_iret X hw rfl rfl rfl dX3_environment_90

set_option maxHeartbeats 4000000 in
set_option maxRecDepth 100000 in
theorem k_X3_access_124 {p : Program} {l : Launch} {e : Env} {s : State} {m : MethodId} {args : Array Value} {below : List Frame} {meth : Method} {c : Code} {A : Nat → Prop} {H : Heap} {locs : List Loc} {ls : Array Slot} {D : va_G} {cy : Nat → ClassId} {ad : Nat → Nat} (X : eb_X p s m args meth c cX3_access 12 RX3 (Cond.code yX3_access cX3_access 12 (some .int) :: wsL_law) (some .int) D cy A)   (σ : eb_St) (v1 : Nat) (v2 : Int32) (v3 : Int32) (v4 : Int32) (v8 : Int64) (s0 : Int64) (bv1 : v1 < 7) {mm : Int32 × eb_St} (hm : (m_X3_access_124  σ v1 v2 v3 v4 v8 s0) = mm) (hw : eb_H D 33 cy cL ad A s.heap σ H locs) (hl : lv_has ls 12 [(0, .ref (ad 9)), (1, .ref (ad (19 + v1))), (2, .int v2), (3, .int v3), (4, .int v4), (8, .long v8)]) : W p l e ({ frames := 3, cells := 0, slots := 0, locals := 75 } : Room) s m args below meth c H locs 0 0 (MQ below (eb_Q D 33 cy cL ad A (some (.int mm.1)) mm.2) args s 0 0 A) (F0 m 124 ls [.long s0]) := by
  have hx := X.1.1
  have hb := X.1.2.1
  have hown := X.1.2.2.2.1
  have hts := X.1.2.2.2.2
  have hm : (fun (z20 : Int64) => (fun (z21 : eb_St) => (fun (z22 : Int32 × eb_St) => (z22.1, z22.2)) (m_X3_finish z21 v1 v2 v8)) (m_X1_write σ v4 z20)) (m_X3_changed (v3 &&& 3) v8 s0) = mm := hm
  refine lv_lstore (lv' := [(10, .long s0), (0, .ref (ad 9)), (1, .ref (ad (19 + v1))), (2, .int v2), (3, .int v3), (4, .int v4), (8, .long v8)]) hx hb dX3_access_124 hl (by decide) rfl (fun ls hl => ?_)
  refine lv_aload_n hx hb dX3_access_126 rfl (lv_at hl 1 rfl) ?_
  refine eb_get (T := TX3) X hw 9 2 (by decide) ⟨rfl, rfl, rfl⟩ (by decide) (fun _ h => List.mem_cons_of_mem _ (inlX3 _ h)) (List.mem_cons_of_mem _ wi_4_0) (v := .ref (ad 8)) rfl dX3_access_127 ?_
  refine lv_iload hx hb dX3_access_130 (lv_at hl 5 rfl) ?_
  refine lv_iload_n hx hb dX3_access_132 rfl (lv_at hl 4 rfl) ?_
  refine lv_iconst (v := 3) hx hb dX3_access_133 (by decide) ?_
  refine lv_iand hx hb dX3_access_134 ?_
  refine lv_lload hx hb dX3_access_135 (lv_at hl 6 rfl) ?_
  refine lv_lload hx hb dX3_access_137 (lv_at hl 0 rfl) ?_
  obtain ⟨z20, qz20⟩ : ∃ t : Int64, t = m_X3_changed (v3 &&& 3) v8 s0 := ⟨_, rfl⟩
  have hm : (fun (z21 : eb_St) => (fun (z22 : Int32 × eb_St) => (z22.1, z22.2)) (m_X3_finish z21 v1 v2 v8)) (m_X1_write σ v4 z20) = mm := by rw [qz20]; exact hm
  have hc : eb_M l yX3_changed (Cond.code yX3_changed cX3_changed 5 (some .long) :: wsL_law) 0 0 D 33 cy cL ad σ [.int (v3 &&& 3), .long v8, .long s0] (some (.long z20)) σ := by rw [qz20]; exact c_X3_changed l D cy ad σ (v3 &&& 3) v8 s0
  refine eb_callS (n := 3) X hw hl.1 (rest := [.int v4, .ref (ad 8)]) hc (eb_goodS wi_21_12 wi_21_13 wi_2_11 wi_21_14) rfl (by decide +kernel) ⟨by decide, by decide⟩ rfl rfl (Nat.le_of_ble_eq_true rfl) dX3_access_139 ⟨by decide, by decide⟩ (st' := [.long z20, .int v4, .ref (ad 8)]) rfl (fun H locs hw => ?_)
  obtain ⟨z21, qz21⟩ : ∃ t : eb_St, t = m_X1_write σ v4 z20 := ⟨_, rfl⟩
  have hm : (fun (z22 : Int32 × eb_St) => (z22.1, z22.2)) (m_X3_finish z21 v1 v2 v8) = mm := by rw [qz21]; exact hm
  have hc : eb_M l yX1_write (Cond.code yX1_write cX1_write 4 none :: wsL_law) 2 52 D 33 cy cL ad σ [.ref (ad 8), .int v4, .long z20] (none) z21 := by rw [qz21]; exact c_X1_write l D cy ad σ v4 z20
  refine eb_callV (n := 2) (as := [.int v4, .long z20]) (rest := []) X hw hl.1 8 hc (by decide) ⟨rfl, rfl, rfl⟩ (eb_goodV wi_21_16 wi_21_17 wi_21_18 wi_2_3 wi_21_19) rfl (by decide +kernel) ⟨by decide, by decide⟩ rfl rfl (Nat.le_of_ble_eq_true rfl) dX3_access_142 ⟨by decide, by decide⟩ (st' := []) rfl (fun H locs hw => ?_)
  refine lv_aload_n hx hb dX3_access_145 rfl (lv_at hl 2 rfl) ?_
  refine lv_iload_n hx hb dX3_access_146 rfl (lv_at hl 3 rfl) ?_
  refine lv_lload hx hb dX3_access_147 (lv_at hl 6 rfl) ?_
  obtain ⟨z22, qz22⟩ : ∃ t : Int32 × eb_St, t = m_X3_finish z21 v1 v2 v8 := ⟨_, rfl⟩
  have hm : (z22.1, z22.2) = mm := by rw [qz22]; exact hm
  have hc : eb_M l yX3_finish (Cond.code yX3_finish cX3_finish 4 (some .int) :: wsL_law) 1 23 D 33 cy cL ad z21 [.ref (ad (19 + v1)), .int v2, .long v8] (some (.int z22.1)) z22.2 := by rw [qz22]; exact c_X3_finish l D cy ad z21 v1 v2 v8 (by omega)
  refine eb_callS (n := 3) X hw hl.1 (rest := []) hc (eb_goodS wi_16_8 wi_16_9 wi_2_11 wi_16_10) rfl (by decide +kernel) ⟨by decide, by decide⟩ rfl rfl (Nat.le_of_ble_eq_true rfl) dX3_access_149 ⟨by decide, by decide⟩ (st' := [.int z22.1]) rfl (fun H locs hw => ?_)
  subst hm
  exact eb_iret X hw rfl rfl rfl dX3_access_152
set_option maxHeartbeats 4000000 in
set_option maxRecDepth 100000 in
theorem k_X3_access_65 {p : Program} {l : Launch} {e : Env} {s : State} {m : MethodId} {args : Array Value} {below : List Frame} {meth : Method} {c : Code} {A : Nat → Prop} {H : Heap} {locs : List Loc} {ls : Array Slot} {D : va_G} {cy : Nat → ClassId} {ad : Nat → Nat} (X : eb_X p s m args meth c cX3_access 12 RX3 (Cond.code yX3_access cX3_access 12 (some .int) :: wsL_law) (some .int) D cy A)   (σ : eb_St) (v1 : Nat) (v2 : Int32) (v3 : Int32) (v4 : Int32) (v5 : Int32) (v6 : Int32) (s0 : Int32) (bv1 : v1 < 7) {mm : Int32 × eb_St} (hm : (m_X3_access_65  σ v1 v2 v3 v4 v5 v6 s0) = mm) (hw : eb_H D 33 cy cL ad A s.heap σ H locs) (hl : lv_has ls 12 [(0, .ref (ad 9)), (1, .ref (ad (19 + v1))), (2, .int v2), (3, .int v3), (4, .int v4), (5, .int v5), (6, .int v6)]) : W p l e ({ frames := 3, cells := 0, slots := 0, locals := 75 } : Room) s m args below meth c H locs 0 0 (MQ below (eb_Q D 33 cy cL ad A (some (.int mm.1)) mm.2) args s 0 0 A) (F0 m 65 ls [.int s0]) := by
  have hx := X.1.1
  have hb := X.1.2.1
  have hown := X.1.2.2.2.1
  have hts := X.1.2.2.2.2
  have hm : (if (σ.1 9 3) = 3 then (if v3 = 4 then (fun (z12 : Int32 × eb_St) => (z12.1, z12.2)) (m_X3_illegal σ v2) else (if s0 = 0 then (fun (z19 : Int32 × eb_St) => (z19.1, z19.2)) (m_X3_illegal σ v2) else (fun (z14 : Int64) => (if v6 = 0 then (fun (z16 : Int32 × eb_St) => (z16.1, z16.2)) (m_X3_finish σ v1 v2 z14) else (if v3 ≤ 4 then (fun (z18 : Int64) => m_X3_access_124  σ v1 v2 v3 v4 z14 z18) (m_X7_get σ v1 v5) else m_X3_access_124  σ v1 v2 v3 v4 z14 v5.toInt64))) (m_X1_read σ v4))) else (fun (z10 : Int32 × eb_St) => (z10.1, z10.2)) (m_X3_illegal σ v2)) = mm := hm
  refine lv_istore (lv' := [(7, .int s0), (0, .ref (ad 9)), (1, .ref (ad (19 + v1))), (2, .int v2), (3, .int v3), (4, .int v4), (5, .int v5), (6, .int v6)]) hx hb dX3_access_65 hl (by decide) rfl (fun ls hl => ?_)
  refine lv_aload_n hx hb dX3_access_67 rfl (lv_at hl 1 rfl) ?_
  refine eb_get (T := TX3) X hw 9 3 (by decide) ⟨rfl, rfl, rfl⟩ (by decide) (fun _ h => List.mem_cons_of_mem _ (inlX3 _ h)) (List.mem_cons_of_mem _ wi_3_21) (v := .int (σ.1 9 3)) rfl dX3_access_68 ?_
  refine lv_iconst (v := 3) hx hb dX3_access_71 (by decide) ?_
  refine lv_icmp_ne (tgt := 85) hx hb dX3_access_72 (by decide) (fun h9 => ?_) (fun h9 => ?_)
  · have hm := (if_neg h9).symm.trans hm
    refine lv_aload_n hx hb dX3_access_85 rfl (lv_at hl 1 rfl) ?_
    refine lv_iload_n hx hb dX3_access_86 rfl (lv_at hl 3 rfl) ?_
    obtain ⟨z10, qz10⟩ : ∃ t : Int32 × eb_St, t = m_X3_illegal σ v2 := ⟨_, rfl⟩
    have hm : (z10.1, z10.2) = mm := by rw [qz10]; exact hm
    have hc : eb_M l yX3_illegal (Cond.code yX3_illegal cX3_illegal 2 (some .int) :: wsL_law) 1 23 D 33 cy cL ad σ [.ref (ad 9), .int v2] (some (.int z10.1)) z10.2 := by rw [qz10]; exact c_X3_illegal l D cy ad σ v2
    refine eb_callV (n := 1) (as := [.int v2]) (rest := []) X hw hl.1 9 hc (by decide) ⟨rfl, rfl, rfl⟩ (eb_goodV wi_15_20 wi_15_21 wi_15_22 wi_2_11 wi_15_23) rfl (by decide +kernel) ⟨by decide, by decide⟩ rfl rfl (Nat.le_of_ble_eq_true rfl) dX3_access_87 ⟨by decide, by decide⟩ (st' := [.int z10.1]) rfl (fun H locs hw => ?_)
    subst hm
    exact eb_iret X hw rfl rfl rfl dX3_access_90
  · have hm := (if_pos h9).symm.trans hm
    refine lv_iload_n hx hb dX3_access_75 rfl (lv_at hl 4 rfl) ?_
    refine lv_iconst (v := 4) hx hb dX3_access_76 (by decide) ?_
    refine lv_icmp_eq (tgt := 85) hx hb dX3_access_77 (by decide) (fun h11 => ?_) (fun h11 => ?_)
    · have hm := (if_pos h11).symm.trans hm
      refine lv_aload_n hx hb dX3_access_85 rfl (lv_at hl 1 rfl) ?_
      refine lv_iload_n hx hb dX3_access_86 rfl (lv_at hl 3 rfl) ?_
      obtain ⟨z12, qz12⟩ : ∃ t : Int32 × eb_St, t = m_X3_illegal σ v2 := ⟨_, rfl⟩
      have hm : (z12.1, z12.2) = mm := by rw [qz12]; exact hm
      have hc : eb_M l yX3_illegal (Cond.code yX3_illegal cX3_illegal 2 (some .int) :: wsL_law) 1 23 D 33 cy cL ad σ [.ref (ad 9), .int v2] (some (.int z12.1)) z12.2 := by rw [qz12]; exact c_X3_illegal l D cy ad σ v2
      refine eb_callV (n := 1) (as := [.int v2]) (rest := []) X hw hl.1 9 hc (by decide) ⟨rfl, rfl, rfl⟩ (eb_goodV wi_15_20 wi_15_21 wi_15_22 wi_2_11 wi_15_23) rfl (by decide +kernel) ⟨by decide, by decide⟩ rfl rfl (Nat.le_of_ble_eq_true rfl) dX3_access_87 ⟨by decide, by decide⟩ (st' := [.int z12.1]) rfl (fun H locs hw => ?_)
      subst hm
      exact eb_iret X hw rfl rfl rfl dX3_access_90
    · have hm := (if_neg h11).symm.trans hm
      refine lv_iload hx hb dX3_access_80 (lv_at hl 0 rfl) ?_
      refine lv_if_ne (tgt := 91) hx hb dX3_access_82 (by decide) (fun h13 => ?_) (fun h13 => ?_)
      · have hm := (if_neg h13).symm.trans hm
        refine lv_aload_n hx hb dX3_access_91 rfl (lv_at hl 1 rfl) ?_
        refine eb_get (T := TX3) X hw 9 2 (by decide) ⟨rfl, rfl, rfl⟩ (by decide) (fun _ h => List.mem_cons_of_mem _ (inlX3 _ h)) (List.mem_cons_of_mem _ wi_4_0) (v := .ref (ad 8)) rfl dX3_access_92 ?_
        refine lv_iload hx hb dX3_access_95 (lv_at hl 5 rfl) ?_
        obtain ⟨z14, qz14⟩ : ∃ t : Int64, t = m_X1_read σ v4 := ⟨_, rfl⟩
        have hm : (if v6 = 0 then (fun (z16 : Int32 × eb_St) => (z16.1, z16.2)) (m_X3_finish σ v1 v2 z14) else (if v3 ≤ 4 then (fun (z18 : Int64) => m_X3_access_124  σ v1 v2 v3 v4 z14 z18) (m_X7_get σ v1 v5) else m_X3_access_124  σ v1 v2 v3 v4 z14 v5.toInt64)) = mm := by rw [qz14]; exact hm
        have hc : eb_M l yX1_read (Cond.code yX1_read cX1_read 3 (some .long) :: wsL_law) 2 45 D 33 cy cL ad σ [.ref (ad 8), .int v4] (some (.long z14)) σ := by rw [qz14]; exact c_X1_read l D cy ad σ v4
        refine eb_callV (n := 1) (as := [.int v4]) (rest := []) X hw hl.1 8 hc (by decide) ⟨rfl, rfl, rfl⟩ (eb_goodV wi_20_20 wi_20_21 wi_20_22 wi_2_3 wi_20_23) rfl (by decide +kernel) ⟨by decide, by decide⟩ rfl rfl (Nat.le_of_ble_eq_true rfl) dX3_access_97 ⟨by decide, by decide⟩ (st' := [.long z14]) rfl (fun H locs hw => ?_)
        refine lv_lstore (lv' := [(8, .long z14), (7, .int s0), (0, .ref (ad 9)), (1, .ref (ad (19 + v1))), (2, .int v2), (3, .int v3), (4, .int v4), (5, .int v5), (6, .int v6)]) hx hb dX3_access_100 hl (by decide) rfl (fun ls hl => ?_)
        refine lv_iload hx hb dX3_access_102 (lv_at hl 8 rfl) ?_
        refine lv_if_eq (tgt := 145) hx hb dX3_access_104 (by decide) (fun h15 => ?_) (fun h15 => ?_)
        · have hm := (if_pos h15).symm.trans hm
          refine lv_aload_n hx hb dX3_access_145 rfl (lv_at hl 3 rfl) ?_
          refine lv_iload_n hx hb dX3_access_146 rfl (lv_at hl 4 rfl) ?_
          refine lv_lload hx hb dX3_access_147 (lv_at hl 0 rfl) ?_
          obtain ⟨z16, qz16⟩ : ∃ t : Int32 × eb_St, t = m_X3_finish σ v1 v2 z14 := ⟨_, rfl⟩
          have hm : (z16.1, z16.2) = mm := by rw [qz16]; exact hm
          have hc : eb_M l yX3_finish (Cond.code yX3_finish cX3_finish 4 (some .int) :: wsL_law) 1 23 D 33 cy cL ad σ [.ref (ad (19 + v1)), .int v2, .long z14] (some (.int z16.1)) z16.2 := by rw [qz16]; exact c_X3_finish l D cy ad σ v1 v2 z14 (by omega)
          refine eb_callS (n := 3) X hw hl.1 (rest := []) hc (eb_goodS wi_16_8 wi_16_9 wi_2_11 wi_16_10) rfl (by decide +kernel) ⟨by decide, by decide⟩ rfl rfl (Nat.le_of_ble_eq_true rfl) dX3_access_149 ⟨by decide, by decide⟩ (st' := [.int z16.1]) rfl (fun H locs hw => ?_)
          subst hm
          exact eb_iret X hw rfl rfl rfl dX3_access_152
        · have hm := (if_neg h15).symm.trans hm
          refine lv_iload_n hx hb dX3_access_107 rfl (lv_at hl 5 rfl) ?_
          refine lv_iconst (v := 4) hx hb dX3_access_108 (by decide) ?_
          refine lv_icmp_le (tgt := 118) hx hb dX3_access_109 (by decide) (fun h17 => ?_) (fun h17 => ?_)
          · have hm := (if_pos h17).symm.trans hm
            refine lv_aload_n hx hb dX3_access_118 rfl (lv_at hl 3 rfl) ?_
            refine lv_iload hx hb dX3_access_119 (lv_at hl 7 rfl) ?_
            obtain ⟨z18, qz18⟩ : ∃ t : Int64, t = m_X7_get σ v1 v5 := ⟨_, rfl⟩
            have hm : m_X3_access_124  σ v1 v2 v3 v4 z14 z18 = mm := by rw [qz18]; exact hm
            have hc : eb_M l yX7_get (Cond.code yX7_get cX7_get 2 (some .long) :: wsL_law) 0 0 D 33 cy cL ad σ [.ref (ad (19 + v1)), .int v5] (some (.long z18)) σ := by rw [qz18]; exact c_X7_get l D cy ad σ v1 v5 (by omega)
            refine eb_callV (n := 1) (as := [.int v5]) (rest := []) X hw hl.1 (19 + v1) hc (by omega) (cR_i (by omega)) (eb_goodV wi_16_4 wi_16_5 wi_16_6 wi_2_7 wi_16_7) rfl (by decide +kernel) ⟨by decide, by decide⟩ rfl rfl (Nat.le_of_ble_eq_true rfl) dX3_access_121 ⟨by decide, by decide⟩ (st' := [.long z18]) rfl (fun H locs hw => ?_)
            exact k_X3_access_124 X   σ v1 v2 v3 v4 z14 z18 (by omega) hm hw (lv_sub hl [2, 3, 4, 5, 6, 0] rfl)
          · have hm := (if_neg h17).symm.trans hm
            refine lv_iload hx hb dX3_access_112 (lv_at hl 7 rfl) ?_
            refine lv_i2l (v := v5.toInt64) hx hb dX3_access_114 rfl ?_
            refine lv_goto (tgt := 124) hx hb dX3_access_115 (by decide) ?_
            exact k_X3_access_124 X   σ v1 v2 v3 v4 z14 v5.toInt64 (by omega) hm hw (lv_sub hl [2, 3, 4, 5, 6, 0] rfl)
      · have hm := (if_pos h13).symm.trans hm
        refine lv_aload_n hx hb dX3_access_85 rfl (lv_at hl 1 rfl) ?_
        refine lv_iload_n hx hb dX3_access_86 rfl (lv_at hl 3 rfl) ?_
        obtain ⟨z19, qz19⟩ : ∃ t : Int32 × eb_St, t = m_X3_illegal σ v2 := ⟨_, rfl⟩
        have hm : (z19.1, z19.2) = mm := by rw [qz19]; exact hm
        have hc : eb_M l yX3_illegal (Cond.code yX3_illegal cX3_illegal 2 (some .int) :: wsL_law) 1 23 D 33 cy cL ad σ [.ref (ad 9), .int v2] (some (.int z19.1)) z19.2 := by rw [qz19]; exact c_X3_illegal l D cy ad σ v2
        refine eb_callV (n := 1) (as := [.int v2]) (rest := []) X hw hl.1 9 hc (by decide) ⟨rfl, rfl, rfl⟩ (eb_goodV wi_15_20 wi_15_21 wi_15_22 wi_2_11 wi_15_23) rfl (by decide +kernel) ⟨by decide, by decide⟩ rfl rfl (Nat.le_of_ble_eq_true rfl) dX3_access_87 ⟨by decide, by decide⟩ (st' := [.int z19.1]) rfl (fun H locs hw => ?_)
        subst hm
        exact eb_iret X hw rfl rfl rfl dX3_access_90
set_option maxHeartbeats 4000000 in
set_option maxRecDepth 100000 in
theorem k_X3_access_37 {p : Program} {l : Launch} {e : Env} {s : State} {m : MethodId} {args : Array Value} {below : List Frame} {meth : Method} {c : Code} {A : Nat → Prop} {H : Heap} {locs : List Loc} {ls : Array Slot} {D : va_G} {cy : Nat → ClassId} {ad : Nat → Nat} (X : eb_X p s m args meth c cX3_access 12 RX3 (Cond.code yX3_access cX3_access 12 (some .int) :: wsL_law) (some .int) D cy A)   (σ : eb_St) (v1 : Nat) (v2 : Int32) (v3 : Int32) (v4 : Int32) (v5 : Int32) (s0 : Int32) (bv1 : v1 < 7) {mm : Int32 × eb_St} (hm : (m_X3_access_37  σ v1 v2 v3 v4 v5 s0) = mm) (hw : eb_H D 33 cy cL ad A s.heap σ H locs) (hl : lv_has ls 12 [(0, .ref (ad 9)), (1, .ref (ad (19 + v1))), (2, .int v2), (3, .int v3), (4, .int v4), (5, .int v5)]) : W p l e ({ frames := 3, cells := 0, slots := 0, locals := 75 } : Room) s m args below meth c H locs 0 0 (MQ below (eb_Q D 33 cy cL ad A (some (.int mm.1)) mm.2) args s 0 0 A) (F0 m 37 ls [.int s0]) := by
  have hx := X.1.1
  have hb := X.1.2.1
  have hown := X.1.2.2.2.1
  have hts := X.1.2.2.2.2
  have hm : (if s0 = 0 then (fun (z7 : Bool) => m_X3_access_65  σ v1 v2 v3 v4 v5 s0 (eb_b z7)) (m_X1_isThere v4) else (fun (z8 : Bool) => m_X3_access_65  σ v1 v2 v3 v4 v5 s0 (eb_b z8)) (m_X1_isWritable v4)) = mm := hm
  refine lv_istore (lv' := [(6, .int s0), (0, .ref (ad 9)), (1, .ref (ad (19 + v1))), (2, .int v2), (3, .int v3), (4, .int v4), (5, .int v5)]) hx hb dX3_access_37 hl (by decide) rfl (fun ls hl => ?_)
  refine lv_iload hx hb dX3_access_39 (lv_at hl 0 rfl) ?_
  refine lv_if_eq (tgt := 56) hx hb dX3_access_41 (by decide) (fun h6 => ?_) (fun h6 => ?_)
  · have hm := (if_pos h6).symm.trans hm
    refine lv_aload_n hx hb dX3_access_56 rfl (lv_at hl 1 rfl) ?_
    refine eb_get (T := TX3) X hw 9 2 (by decide) ⟨rfl, rfl, rfl⟩ (by decide) (fun _ h => List.mem_cons_of_mem _ (inlX3 _ h)) (List.mem_cons_of_mem _ wi_4_0) (v := .ref (ad 8)) rfl dX3_access_57 ?_
    refine lv_iload hx hb dX3_access_60 (lv_at hl 5 rfl) ?_
    obtain ⟨z7, qz7⟩ : ∃ t : Bool, t = m_X1_isThere v4 := ⟨_, rfl⟩
    have hm : m_X3_access_65  σ v1 v2 v3 v4 v5 s0 (eb_b z7) = mm := by rw [qz7]; exact hm
    have hc : eb_M l yX1_isThere (Cond.code yX1_isThere cX1_isThere 2 (some .boolean) :: wsL_law) 1 21 D 33 cy cL ad σ [.ref (ad 8), .int v4] (some (.int (eb_b z7))) σ := by rw [qz7]; exact c_X1_isThere l D cy ad σ v4
    refine eb_callV (n := 1) (as := [.int v4]) (rest := []) X hw hl.1 8 hc (by decide) ⟨rfl, rfl, rfl⟩ (eb_goodV wi_20_15 wi_20_16 wi_20_17 wi_2_3 wi_20_18) rfl (by decide +kernel) ⟨by decide, by decide⟩ rfl rfl (Nat.le_of_ble_eq_true rfl) dX3_access_62 ⟨by decide, by decide⟩ (st' := [.int (eb_b z7)]) rfl (fun H locs hw => ?_)
    exact k_X3_access_65 X   σ v1 v2 v3 v4 v5 s0 (eb_b z7) (by omega) hm hw (lv_sub hl [1, 2, 3, 4, 5, 6, 0] rfl)
  · have hm := (if_neg h6).symm.trans hm
    refine lv_aload_n hx hb dX3_access_44 rfl (lv_at hl 1 rfl) ?_
    refine eb_get (T := TX3) X hw 9 2 (by decide) ⟨rfl, rfl, rfl⟩ (by decide) (fun _ h => List.mem_cons_of_mem _ (inlX3 _ h)) (List.mem_cons_of_mem _ wi_4_0) (v := .ref (ad 8)) rfl dX3_access_45 ?_
    refine lv_iload hx hb dX3_access_48 (lv_at hl 5 rfl) ?_
    obtain ⟨z8, qz8⟩ : ∃ t : Bool, t = m_X1_isWritable v4 := ⟨_, rfl⟩
    have hm : m_X3_access_65  σ v1 v2 v3 v4 v5 s0 (eb_b z8) = mm := by rw [qz8]; exact hm
    have hc : eb_M l yX1_isWritable (Cond.code yX1_isWritable cX1_isWritable 2 (some .boolean) :: wsL_law) 0 0 D 33 cy cL ad σ [.ref (ad 8), .int v4] (some (.int (eb_b z8))) σ := by rw [qz8]; exact c_X1_isWritable l D cy ad σ v4
    refine eb_callV (n := 1) (as := [.int v4]) (rest := []) X hw hl.1 8 hc (by decide) ⟨rfl, rfl, rfl⟩ (eb_goodV wi_20_11 wi_20_12 wi_20_13 wi_2_3 wi_20_14) rfl (by decide +kernel) ⟨by decide, by decide⟩ rfl rfl (Nat.le_of_ble_eq_true rfl) dX3_access_50 ⟨by decide, by decide⟩ (st' := [.int (eb_b z8)]) rfl (fun H locs hw => ?_)
    refine lv_goto (tgt := 65) hx hb dX3_access_53 (by decide) ?_
    exact k_X3_access_65 X   σ v1 v2 v3 v4 v5 s0 (eb_b z8) (by omega) hm hw (lv_sub hl [1, 2, 3, 4, 5, 6, 0] rfl)
set_option maxHeartbeats 4000000 in
set_option maxRecDepth 100000 in
theorem k_X3_access_32 {p : Program} {l : Launch} {e : Env} {s : State} {m : MethodId} {args : Array Value} {below : List Frame} {meth : Method} {c : Code} {A : Nat → Prop} {H : Heap} {locs : List Loc} {ls : Array Slot} {D : va_G} {cy : Nat → ClassId} {ad : Nat → Nat} (X : eb_X p s m args meth c cX3_access 12 RX3 (Cond.code yX3_access cX3_access 12 (some .int) :: wsL_law) (some .int) D cy A)   (σ : eb_St) (v1 : Nat) (v2 : Int32) (v3 : Int32) (v4 : Int32) (v5 : Int32) (bv1 : v1 < 7) {mm : Int32 × eb_St} (hm : (m_X3_access_32  σ v1 v2 v3 v4 v5) = mm) (hw : eb_H D 33 cy cL ad A s.heap σ H locs) (hl : lv_has ls 12 [(0, .ref (ad 9)), (1, .ref (ad (19 + v1))), (2, .int v2), (3, .int v3), (4, .int v4), (5, .int v5)]) : W p l e ({ frames := 3, cells := 0, slots := 0, locals := 75 } : Room) s m args below meth c H locs 0 0 (MQ below (eb_Q D 33 cy cL ad A (some (.int mm.1)) mm.2) args s 0 0 A) (F0 m 32 ls []) := by
  have hx := X.1.1
  have hb := X.1.2.1
  have hown := X.1.2.2.2.1
  have hts := X.1.2.2.2.2
  have hm : m_X3_access_37  σ v1 v2 v3 v4 v5 1 = mm := hm
  refine lv_iconst (v := 1) hx hb dX3_access_32 (by decide) ?_
  refine lv_goto (tgt := 37) hx hb dX3_access_33 (by decide) ?_
  exact k_X3_access_37 X   σ v1 v2 v3 v4 v5 1 (by omega) hm hw (lv_sub hl [0, 1, 2, 3, 4, 5] rfl)
set_option maxHeartbeats 4000000 in
set_option maxRecDepth 100000 in
theorem c_X3_access (l : Launch) (D : va_G) (cy : Nat → ClassId) (ad : Nat → Nat) (σ : eb_St) (a0 : Nat) (a1 : Int32) (ba0 : a0 < 7) : eb_M l yX3_access (Cond.code yX3_access cX3_access 12 (some .int) :: wsL_law) 3 75 D 33 cy cL ad σ [.ref (ad 9), .ref (ad (19 + a0)), .int a1] (some (.int (m_X3_access σ a0 a1).1)) ((m_X3_access σ a0 a1).2) := by
  refine eb_start (own := RX3) (by decide) rfl rfl (Nat.le_of_ble_eq_true rfl) ?_
  intro p e s m args below meth c A ls X hw hl
  have hl : lv_has ls 12 [(0, .ref (ad 9)), (1, .ref (ad (19 + a0))), (2, .int a1)] := hl
  have hx := X.1.1
  have hb := X.1.2.1
  have hown := X.1.2.2.2.1
  have hts := X.1.2.2.2.2
  generalize hm : m_X3_access σ a0 a1 = mm
  have hm : (fun (z1 : Int32) => (fun (x2 : Int32) => (fun (x3 : Int32) => (if (z1 &&& 3) = 1 then m_X3_access_32  σ a0 a1 z1 x2 x3 else (if x3 = 0 then m_X3_access_37  σ a0 a1 z1 x2 x3 0 else m_X3_access_32  σ a0 a1 z1 x2 x3))) ((eb_iushr a1 15) &&& 31)) (eb_iushr a1 20)) (m_X3_kind a1) = mm := hm
  refine lv_iload_n hx hb dX3_access_0 rfl (lv_at hl 2 rfl) ?_
  obtain ⟨z1, qz1⟩ : ∃ t : Int32, t = m_X3_kind a1 := ⟨_, rfl⟩
  have hm : (fun (x2 : Int32) => (fun (x3 : Int32) => (if (z1 &&& 3) = 1 then m_X3_access_32  σ a0 a1 z1 x2 x3 else (if x3 = 0 then m_X3_access_37  σ a0 a1 z1 x2 x3 0 else m_X3_access_32  σ a0 a1 z1 x2 x3))) ((eb_iushr a1 15) &&& 31)) (eb_iushr a1 20) = mm := by rw [qz1]; exact hm
  have hc : eb_M l yX3_kind (Cond.code yX3_kind cX3_kind 1 (some .int) :: wsL_law) 0 0 D 33 cy cL ad σ [.int a1] (some (.int z1)) σ := by rw [qz1]; exact c_X3_kind l D cy ad σ a1
  refine eb_callS (n := 1) X hw hl.1 (rest := []) hc (eb_goodS wi_15_17 wi_15_18 wi_2_11 wi_15_19) rfl (by decide +kernel) ⟨by decide, by decide⟩ rfl rfl (Nat.le_of_ble_eq_true rfl) dX3_access_1 ⟨by decide, by decide⟩ (st' := [.int z1]) rfl (fun H locs hw => ?_)
  refine lv_istore_n (lv' := [(3, .int z1), (0, .ref (ad 9)), (1, .ref (ad (19 + a0))), (2, .int a1)]) hx hb dX3_access_4 rfl hl (by decide) rfl (fun ls hl => ?_)
  refine lv_iload_n hx hb dX3_access_5 rfl (lv_at hl 3 rfl) ?_
  refine lv_bipush (v := 20) hx hb dX3_access_6 (by decide) ?_
  refine lv_iushr (v := eb_iushr a1 20) hx hb dX3_access_8 rfl ?_
  refine lv_topi (fun x2 ex2 => ?_)
  have hm : (fun (x3 : Int32) => (if (z1 &&& 3) = 1 then m_X3_access_32  σ a0 a1 z1 x2 x3 else (if x3 = 0 then m_X3_access_37  σ a0 a1 z1 x2 x3 0 else m_X3_access_32  σ a0 a1 z1 x2 x3))) ((eb_iushr a1 15) &&& 31) = mm := by rw [ex2]; exact hm
  refine lv_istore (lv' := [(4, .int x2), (3, .int z1), (0, .ref (ad 9)), (1, .ref (ad (19 + a0))), (2, .int a1)]) hx hb dX3_access_9 hl (by decide) rfl (fun ls hl => ?_)
  refine lv_iload_n hx hb dX3_access_11 rfl (lv_at hl 4 rfl) ?_
  refine lv_bipush (v := 15) hx hb dX3_access_12 (by decide) ?_
  refine lv_iushr (v := eb_iushr a1 15) hx hb dX3_access_14 rfl ?_
  refine lv_bipush (v := 31) hx hb dX3_access_15 (by decide) ?_
  refine lv_iand hx hb dX3_access_17 ?_
  refine lv_topi (fun x3 ex3 => ?_)
  have hm : (if (z1 &&& 3) = 1 then m_X3_access_32  σ a0 a1 z1 x2 x3 else (if x3 = 0 then m_X3_access_37  σ a0 a1 z1 x2 x3 0 else m_X3_access_32  σ a0 a1 z1 x2 x3)) = mm := by rw [ex3]; exact hm
  refine lv_istore (lv' := [(5, .int x3), (4, .int x2), (3, .int z1), (0, .ref (ad 9)), (1, .ref (ad (19 + a0))), (2, .int a1)]) hx hb dX3_access_18 hl (by decide) rfl (fun ls hl => ?_)
  refine lv_iload_n hx hb dX3_access_20 rfl (lv_at hl 2 rfl) ?_
  refine lv_iconst (v := 3) hx hb dX3_access_21 (by decide) ?_
  refine lv_iand hx hb dX3_access_22 ?_
  refine lv_iconst (v := 1) hx hb dX3_access_23 (by decide) ?_
  refine lv_icmp_eq (tgt := 32) hx hb dX3_access_24 (by decide) (fun h4 => ?_) (fun h4 => ?_)
  · have hm := (if_pos h4).symm.trans hm
    exact k_X3_access_32 X   σ a0 a1 z1 x2 x3 (by omega) hm hw (lv_sub hl [3, 4, 5, 2, 1, 0] rfl)
  · have hm := (if_neg h4).symm.trans hm
    refine lv_iload hx hb dX3_access_27 (lv_at hl 0 rfl) ?_
    refine lv_if_eq (tgt := 36) hx hb dX3_access_29 (by decide) (fun h5 => ?_) (fun h5 => ?_)
    · have hm := (if_pos h5).symm.trans hm
      refine lv_iconst (v := 0) hx hb dX3_access_36 (by decide) ?_
      exact k_X3_access_37 X   σ a0 a1 z1 x2 x3 0 (by omega) hm hw (lv_sub hl [3, 4, 5, 2, 1, 0] rfl)
    · have hm := (if_neg h5).symm.trans hm
      exact k_X3_access_32 X   σ a0 a1 z1 x2 x3 (by omega) hm hw (lv_sub hl [3, 4, 5, 2, 1, 0] rfl)

set_option maxHeartbeats 4000000 in
set_option maxRecDepth 100000 in
theorem c_X3_perform (l : Launch) (D : va_G) (cy : Nat → ClassId) (ad : Nat → Nat) (σ : eb_St) (a0 : Nat) (a1 : Int32) (ba0 : a0 < 7) : eb_M l yX3_perform (Cond.code yX3_perform cX3_perform 3 (some .int) :: wsL_law) 5 126 D 33 cy cL ad σ [.ref (ad 9), .ref (ad (19 + a0)), .int a1] (some (.int (m_X3_perform σ a0 a1).1)) ((m_X3_perform σ a0 a1).2) := by
  refine eb_start (own := RX3) (by decide) rfl rfl (Nat.le_of_ble_eq_true rfl) ?_
  intro p e s m args below meth c A ls X hw hl
  have hl : lv_has ls 3 [(0, .ref (ad 9)), (1, .ref (ad (19 + a0))), (2, .int a1)] := hl
  have hx := X.1.1
  have hb := X.1.2.1
  have hown := X.1.2.2.2.1
  have hts := X.1.2.2.2.2
  generalize hm : m_X3_perform σ a0 a1 = mm
  have hm : (if (a1 &&& 127) = 3 then (fun (z2 : Int32 × eb_St) => (z2.1, z2.2)) (m_X3_load σ a0 a1) else if (a1 &&& 127) = 15 then (fun (z4 : Int32) => (if (1 : Int32) < z4 then (fun (z6 : Int32 × eb_St) => (z6.1, z6.2)) (m_X3_illegal σ a1) else ((-1), σ))) (m_X3_kind a1) else if (a1 &&& 127) = 19 then (fun (z8 : Int32 × eb_St) => (z8.1, z8.2)) (m_X3_withImmediate σ a0 a1) else if (a1 &&& 127) = 23 then (fun (z10 : Int32 × eb_St) => (z10.1, z10.2)) (m_X3_finish σ a0 a1 ((σ.2 (19 + a0) 1) + ((a1 &&& (-4096)).toInt64))) else if (a1 &&& 127) = 27 then (fun (z12 : Int32 × eb_St) => (z12.1, z12.2)) (m_X3_withImmediateWord σ a0 a1) else if (a1 &&& 127) = 35 then (fun (z14 : Int32 × eb_St) => (z14.1, z14.2)) (m_X3_store σ a0 a1) else if (a1 &&& 127) = 51 then (fun (z16 : Int32 × eb_St) => (z16.1, z16.2)) (m_X3_withRegister σ a0 a1) else if (a1 &&& 127) = 55 then (fun (z18 : Int32 × eb_St) => (z18.1, z18.2)) (m_X3_finish σ a0 a1 ((a1 &&& (-4096)).toInt64)) else if (a1 &&& 127) = 59 then (fun (z20 : Int32 × eb_St) => (z20.1, z20.2)) (m_X3_withRegisterWord σ a0 a1) else if (a1 &&& 127) = 99 then (fun (z22 : Int32 × eb_St) => (z22.1, z22.2)) (m_X3_branch σ a0 a1) else if (a1 &&& 127) = 103 then (fun (z24 : Int32 × eb_St) => (z24.1, z24.2)) (m_X3_jumpByRegister σ a0 a1) else if (a1 &&& 127) = 111 then (fun (z26 : Int32) => (fun (z27 : Int32 × eb_St) => (z27.1, z27.2)) (m_X3_jump σ a0 a1 ((σ.2 (19 + a0) 1) + z26.toInt64))) (m_X3_jumpOffset a1) else if (a1 &&& 127) = 115 then (fun (z29 : Int32) => (if z29 = 0 then (fun (z32 : Int32 × eb_St) => (z32.1, z32.2)) (m_X3_environment σ a0 a1) else (fun (z31 : Int32 × eb_St) => (z31.1, z31.2)) (m_X3_access σ a0 a1))) (m_X3_kind a1) else (fun (z33 : Int32 × eb_St) => (z33.1, z33.2)) (m_X3_illegal σ a1)) = mm := hm
  refine lv_iload_n hx hb dX3_perform_0 rfl (lv_at hl 2 rfl) ?_
  refine lv_bipush (v := 127) hx hb dX3_perform_1 (by decide) ?_
  refine lv_iand hx hb dX3_perform_3 ?_
  by_cases h1 : (a1 &&& 127) = 3
  · have hm := (if_pos h1).symm.trans hm
    refine lv_lookup (off := 116) (tgt := 120) hx hb dX3_perform_4 (by decide) (by rw [h1]; decide) (by decide) ?_
    refine lv_aload_n hx hb dX3_perform_120 rfl (lv_at hl 0 rfl) ?_
    refine lv_aload_n hx hb dX3_perform_121 rfl (lv_at hl 1 rfl) ?_
    refine lv_iload_n hx hb dX3_perform_122 rfl (lv_at hl 2 rfl) ?_
    obtain ⟨z2, qz2⟩ : ∃ t : Int32 × eb_St, t = m_X3_load σ a0 a1 := ⟨_, rfl⟩
    have hm : (z2.1, z2.2) = mm := by rw [qz2]; exact hm
    have hc : eb_M l yX3_load (Cond.code yX3_load cX3_load 10 (some .int) :: wsL_law) 2 50 D 33 cy cL ad σ [.ref (ad 9), .ref (ad (19 + a0)), .int a1] (some (.int z2.1)) z2.2 := by rw [qz2]; exact c_X3_load l D cy ad σ a0 a1 (by omega)
    refine eb_callV (n := 2) (as := [.ref (ad (19 + a0)), .int a1]) (rest := []) X hw hl.1 9 hc (by decide) ⟨rfl, rfl, rfl⟩ (eb_goodV wi_15_13 wi_15_14 wi_15_15 wi_2_11 wi_15_16) rfl (by decide +kernel) ⟨by decide, by decide⟩ rfl rfl (Nat.le_of_ble_eq_true rfl) dX3_perform_123 ⟨by decide, by decide⟩ (st' := [.int z2.1]) rfl (fun H locs hw => ?_)
    subst hm
    exact eb_iret X hw rfl rfl rfl dX3_perform_126
  · have hm := (if_neg h1).symm.trans hm
    by_cases h3 : (a1 &&& 127) = 15
    · have hm := (if_pos h3).symm.trans hm
      refine lv_lookup (off := 123) (tgt := 127) hx hb dX3_perform_4 (by decide) (by rw [h3]; decide) (by decide) ?_
      refine lv_iload_n hx hb dX3_perform_127 rfl (lv_at hl 2 rfl) ?_
      obtain ⟨z4, qz4⟩ : ∃ t : Int32, t = m_X3_kind a1 := ⟨_, rfl⟩
      have hm : (if (1 : Int32) < z4 then (fun (z6 : Int32 × eb_St) => (z6.1, z6.2)) (m_X3_illegal σ a1) else ((-1), σ)) = mm := by rw [qz4]; exact hm
      have hc : eb_M l yX3_kind (Cond.code yX3_kind cX3_kind 1 (some .int) :: wsL_law) 0 0 D 33 cy cL ad σ [.int a1] (some (.int z4)) σ := by rw [qz4]; exact c_X3_kind l D cy ad σ a1
      refine eb_callS (n := 1) X hw hl.1 (rest := []) hc (eb_goodS wi_15_17 wi_15_18 wi_2_11 wi_15_19) rfl (by decide +kernel) ⟨by decide, by decide⟩ rfl rfl (Nat.le_of_ble_eq_true rfl) dX3_perform_128 ⟨by decide, by decide⟩ (st' := [.int z4]) rfl (fun H locs hw => ?_)
      refine lv_iconst (v := 1) hx hb dX3_perform_131 (by decide) ?_
      refine lv_icmp_gt (tgt := 139) hx hb dX3_perform_132 (by decide) (fun h5 => ?_) (fun h5 => ?_)
      · have hm := (if_pos h5).symm.trans hm
        refine lv_aload_n hx hb dX3_perform_139 rfl (lv_at hl 0 rfl) ?_
        refine lv_iload_n hx hb dX3_perform_140 rfl (lv_at hl 2 rfl) ?_
        obtain ⟨z6, qz6⟩ : ∃ t : Int32 × eb_St, t = m_X3_illegal σ a1 := ⟨_, rfl⟩
        have hm : (z6.1, z6.2) = mm := by rw [qz6]; exact hm
        have hc : eb_M l yX3_illegal (Cond.code yX3_illegal cX3_illegal 2 (some .int) :: wsL_law) 1 23 D 33 cy cL ad σ [.ref (ad 9), .int a1] (some (.int z6.1)) z6.2 := by rw [qz6]; exact c_X3_illegal l D cy ad σ a1
        refine eb_callV (n := 1) (as := [.int a1]) (rest := []) X hw hl.1 9 hc (by decide) ⟨rfl, rfl, rfl⟩ (eb_goodV wi_15_20 wi_15_21 wi_15_22 wi_2_11 wi_15_23) rfl (by decide +kernel) ⟨by decide, by decide⟩ rfl rfl (Nat.le_of_ble_eq_true rfl) dX3_perform_141 ⟨by decide, by decide⟩ (st' := [.int z6.1]) rfl (fun H locs hw => ?_)
        subst hm
        exact eb_iret X hw rfl rfl rfl dX3_perform_144
      · have hm := (if_neg h5).symm.trans hm
        refine lv_iconst (v := (-1)) hx hb dX3_perform_135 (by decide) ?_
        refine lv_goto (tgt := 144) hx hb dX3_perform_136 (by decide) ?_
        subst hm
        exact eb_iret X hw rfl rfl rfl dX3_perform_144
    · have hm := (if_neg h3).symm.trans hm
      by_cases h7 : (a1 &&& 127) = 19
      · have hm := (if_pos h7).symm.trans hm
        refine lv_lookup (off := 141) (tgt := 145) hx hb dX3_perform_4 (by decide) (by rw [h7]; decide) (by decide) ?_
        refine lv_aload_n hx hb dX3_perform_145 rfl (lv_at hl 0 rfl) ?_
        refine lv_aload_n hx hb dX3_perform_146 rfl (lv_at hl 1 rfl) ?_
        refine lv_iload_n hx hb dX3_perform_147 rfl (lv_at hl 2 rfl) ?_
        obtain ⟨z8, qz8⟩ : ∃ t : Int32 × eb_St, t = m_X3_withImmediate σ a0 a1 := ⟨_, rfl⟩
        have hm : (z8.1, z8.2) = mm := by rw [qz8]; exact hm
        have hc : eb_M l yX3_withImmediate (Cond.code yX3_withImmediate cX3_withImmediate 6 (some .int) :: wsL_law) 3 72 D 33 cy cL ad σ [.ref (ad 9), .ref (ad (19 + a0)), .int a1] (some (.int z8.1)) z8.2 := by rw [qz8]; exact c_X3_withImmediate l D cy ad σ a0 a1 (by omega)
        refine eb_callV (n := 2) (as := [.ref (ad (19 + a0)), .int a1]) (rest := []) X hw hl.1 9 hc (by decide) ⟨rfl, rfl, rfl⟩ (eb_goodV wi_16_12 wi_16_13 wi_16_14 wi_2_11 wi_16_15) rfl (by decide +kernel) ⟨by decide, by decide⟩ rfl rfl (Nat.le_of_ble_eq_true rfl) dX3_perform_148 ⟨by decide, by decide⟩ (st' := [.int z8.1]) rfl (fun H locs hw => ?_)
        subst hm
        exact eb_iret X hw rfl rfl rfl dX3_perform_151
      · have hm := (if_neg h7).symm.trans hm
        by_cases h9 : (a1 &&& 127) = 23
        · have hm := (if_pos h9).symm.trans hm
          refine lv_lookup (off := 148) (tgt := 152) hx hb dX3_perform_4 (by decide) (by rw [h9]; decide) (by decide) ?_
          refine lv_aload_n hx hb dX3_perform_152 rfl (lv_at hl 1 rfl) ?_
          refine lv_iload_n hx hb dX3_perform_153 rfl (lv_at hl 2 rfl) ?_
          refine lv_aload_n hx hb dX3_perform_154 rfl (lv_at hl 1 rfl) ?_
          refine eb_get (T := TX7) X hw (19 + a0) 1 (by omega) (cR_i (by omega)) (by decide) (fun _ h => List.mem_cons_of_mem _ (inlX7 _ h)) (List.mem_cons_of_mem _ wi_14_15) (v := .long (σ.2 (19 + a0) 1)) (eb_sJ (cR_t (by omega) 1)) dX3_perform_155 ?_
          refine lv_iload_n hx hb dX3_perform_158 rfl (lv_at hl 2 rfl) ?_
          refine lv_sipush (v := (-4096)) hx hb dX3_perform_159 (by decide) ?_
          refine lv_iand hx hb dX3_perform_162 ?_
          refine lv_i2l (v := (a1 &&& (-4096)).toInt64) hx hb dX3_perform_163 rfl ?_
          refine lv_ladd hx hb dX3_perform_164 ?_
          obtain ⟨z10, qz10⟩ : ∃ t : Int32 × eb_St, t = m_X3_finish σ a0 a1 ((σ.2 (19 + a0) 1) + ((a1 &&& (-4096)).toInt64)) := ⟨_, rfl⟩
          have hm : (z10.1, z10.2) = mm := by rw [qz10]; exact hm
          have hc : eb_M l yX3_finish (Cond.code yX3_finish cX3_finish 4 (some .int) :: wsL_law) 1 23 D 33 cy cL ad σ [.ref (ad (19 + a0)), .int a1, .long ((σ.2 (19 + a0) 1) + ((a1 &&& (-4096)).toInt64))] (some (.int z10.1)) z10.2 := by rw [qz10]; exact c_X3_finish l D cy ad σ a0 a1 ((σ.2 (19 + a0) 1) + ((a1 &&& (-4096)).toInt64)) (by omega)
          refine eb_callS (n := 3) X hw hl.1 (rest := []) hc (eb_goodS wi_16_8 wi_16_9 wi_2_11 wi_16_10) rfl (by decide +kernel) ⟨by decide, by decide⟩ rfl rfl (Nat.le_of_ble_eq_true rfl) dX3_perform_165 ⟨by decide, by decide⟩ (st' := [.int z10.1]) rfl (fun H locs hw => ?_)
          subst hm
          exact eb_iret X hw rfl rfl rfl dX3_perform_168
        · have hm := (if_neg h9).symm.trans hm
          by_cases h11 : (a1 &&& 127) = 27
          · have hm := (if_pos h11).symm.trans hm
            refine lv_lookup (off := 165) (tgt := 169) hx hb dX3_perform_4 (by decide) (by rw [h11]; decide) (by decide) ?_
            refine lv_aload_n hx hb dX3_perform_169 rfl (lv_at hl 0 rfl) ?_
            refine lv_aload_n hx hb dX3_perform_170 rfl (lv_at hl 1 rfl) ?_
            refine lv_iload_n hx hb dX3_perform_171 rfl (lv_at hl 2 rfl) ?_
            obtain ⟨z12, qz12⟩ : ∃ t : Int32 × eb_St, t = m_X3_withImmediateWord σ a0 a1 := ⟨_, rfl⟩
            have hm : (z12.1, z12.2) = mm := by rw [qz12]; exact hm
            have hc : eb_M l yX3_withImmediateWord (Cond.code yX3_withImmediateWord cX3_withImmediateWord 7 (some .int) :: wsL_law) 2 46 D 33 cy cL ad σ [.ref (ad 9), .ref (ad (19 + a0)), .int a1] (some (.int z12.1)) z12.2 := by rw [qz12]; exact c_X3_withImmediateWord l D cy ad σ a0 a1 (by omega)
            refine eb_callV (n := 2) (as := [.ref (ad (19 + a0)), .int a1]) (rest := []) X hw hl.1 9 hc (by decide) ⟨rfl, rfl, rfl⟩ (eb_goodV wi_17_4 wi_17_5 wi_17_6 wi_2_11 wi_17_7) rfl (by decide +kernel) ⟨by decide, by decide⟩ rfl rfl (Nat.le_of_ble_eq_true rfl) dX3_perform_172 ⟨by decide, by decide⟩ (st' := [.int z12.1]) rfl (fun H locs hw => ?_)
            subst hm
            exact eb_iret X hw rfl rfl rfl dX3_perform_175
          · have hm := (if_neg h11).symm.trans hm
            by_cases h13 : (a1 &&& 127) = 35
            · have hm := (if_pos h13).symm.trans hm
              refine lv_lookup (off := 172) (tgt := 176) hx hb dX3_perform_4 (by decide) (by rw [h13]; decide) (by decide) ?_
              refine lv_aload_n hx hb dX3_perform_176 rfl (lv_at hl 0 rfl) ?_
              refine lv_aload_n hx hb dX3_perform_177 rfl (lv_at hl 1 rfl) ?_
              refine lv_iload_n hx hb dX3_perform_178 rfl (lv_at hl 2 rfl) ?_
              obtain ⟨z14, qz14⟩ : ∃ t : Int32 × eb_St, t = m_X3_store σ a0 a1 := ⟨_, rfl⟩
              have hm : (z14.1, z14.2) = mm := by rw [qz14]; exact hm
              have hc : eb_M l yX3_store (Cond.code yX3_store cX3_store 7 (some .int) :: wsL_law) 2 50 D 33 cy cL ad σ [.ref (ad 9), .ref (ad (19 + a0)), .int a1] (some (.int z14.1)) z14.2 := by rw [qz14]; exact c_X3_store l D cy ad σ a0 a1 (by omega)
              refine eb_callV (n := 2) (as := [.ref (ad (19 + a0)), .int a1]) (rest := []) X hw hl.1 9 hc (by decide) ⟨rfl, rfl, rfl⟩ (eb_goodV wi_17_11 wi_17_12 wi_17_13 wi_2_11 wi_17_14) rfl (by decide +kernel) ⟨by decide, by decide⟩ rfl rfl (Nat.le_of_ble_eq_true rfl) dX3_perform_179 ⟨by decide, by decide⟩ (st' := [.int z14.1]) rfl (fun H locs hw => ?_)
              subst hm
              exact eb_iret X hw rfl rfl rfl dX3_perform_182
            · have hm := (if_neg h13).symm.trans hm
              by_cases h15 : (a1 &&& 127) = 51
              · have hm := (if_pos h15).symm.trans hm
                refine lv_lookup (off := 179) (tgt := 183) hx hb dX3_perform_4 (by decide) (by rw [h15]; decide) (by decide) ?_
                refine lv_aload_n hx hb dX3_perform_183 rfl (lv_at hl 0 rfl) ?_
                refine lv_aload_n hx hb dX3_perform_184 rfl (lv_at hl 1 rfl) ?_
                refine lv_iload_n hx hb dX3_perform_185 rfl (lv_at hl 2 rfl) ?_
                obtain ⟨z16, qz16⟩ : ∃ t : Int32 × eb_St, t = m_X3_withRegister σ a0 a1 := ⟨_, rfl⟩
                have hm : (z16.1, z16.2) = mm := by rw [qz16]; exact hm
                have hc : eb_M l yX3_withRegister (Cond.code yX3_withRegister cX3_withRegister 10 (some .int) :: wsL_law) 4 97 D 33 cy cL ad σ [.ref (ad 9), .ref (ad (19 + a0)), .int a1] (some (.int z16.1)) z16.2 := by rw [qz16]; exact c_X3_withRegister l D cy ad σ a0 a1 (by omega)
                refine eb_callV (n := 2) (as := [.ref (ad (19 + a0)), .int a1]) (rest := []) X hw hl.1 9 hc (by decide) ⟨rfl, rfl, rfl⟩ (eb_goodV wi_17_19 wi_17_20 wi_17_21 wi_2_11 wi_17_22) rfl (by decide +kernel) ⟨by decide, by decide⟩ rfl rfl (Nat.le_of_ble_eq_true rfl) dX3_perform_186 ⟨by decide, by decide⟩ (st' := [.int z16.1]) rfl (fun H locs hw => ?_)
                subst hm
                exact eb_iret X hw rfl rfl rfl dX3_perform_189
              · have hm := (if_neg h15).symm.trans hm
                by_cases h17 : (a1 &&& 127) = 55
                · have hm := (if_pos h17).symm.trans hm
                  refine lv_lookup (off := 186) (tgt := 190) hx hb dX3_perform_4 (by decide) (by rw [h17]; decide) (by decide) ?_
                  refine lv_aload_n hx hb dX3_perform_190 rfl (lv_at hl 1 rfl) ?_
                  refine lv_iload_n hx hb dX3_perform_191 rfl (lv_at hl 2 rfl) ?_
                  refine lv_iload_n hx hb dX3_perform_192 rfl (lv_at hl 2 rfl) ?_
                  refine lv_sipush (v := (-4096)) hx hb dX3_perform_193 (by decide) ?_
                  refine lv_iand hx hb dX3_perform_196 ?_
                  refine lv_i2l (v := (a1 &&& (-4096)).toInt64) hx hb dX3_perform_197 rfl ?_
                  obtain ⟨z18, qz18⟩ : ∃ t : Int32 × eb_St, t = m_X3_finish σ a0 a1 ((a1 &&& (-4096)).toInt64) := ⟨_, rfl⟩
                  have hm : (z18.1, z18.2) = mm := by rw [qz18]; exact hm
                  have hc : eb_M l yX3_finish (Cond.code yX3_finish cX3_finish 4 (some .int) :: wsL_law) 1 23 D 33 cy cL ad σ [.ref (ad (19 + a0)), .int a1, .long ((a1 &&& (-4096)).toInt64)] (some (.int z18.1)) z18.2 := by rw [qz18]; exact c_X3_finish l D cy ad σ a0 a1 ((a1 &&& (-4096)).toInt64) (by omega)
                  refine eb_callS (n := 3) X hw hl.1 (rest := []) hc (eb_goodS wi_16_8 wi_16_9 wi_2_11 wi_16_10) rfl (by decide +kernel) ⟨by decide, by decide⟩ rfl rfl (Nat.le_of_ble_eq_true rfl) dX3_perform_198 ⟨by decide, by decide⟩ (st' := [.int z18.1]) rfl (fun H locs hw => ?_)
                  subst hm
                  exact eb_iret X hw rfl rfl rfl dX3_perform_201
                · have hm := (if_neg h17).symm.trans hm
                  by_cases h19 : (a1 &&& 127) = 59
                  · have hm := (if_pos h19).symm.trans hm
                    refine lv_lookup (off := 198) (tgt := 202) hx hb dX3_perform_4 (by decide) (by rw [h19]; decide) (by decide) ?_
                    refine lv_aload_n hx hb dX3_perform_202 rfl (lv_at hl 0 rfl) ?_
                    refine lv_aload_n hx hb dX3_perform_203 rfl (lv_at hl 1 rfl) ?_
                    refine lv_iload_n hx hb dX3_perform_204 rfl (lv_at hl 2 rfl) ?_
                    obtain ⟨z20, qz20⟩ : ∃ t : Int32 × eb_St, t = m_X3_withRegisterWord σ a0 a1 := ⟨_, rfl⟩
                    have hm : (z20.1, z20.2) = mm := by rw [qz20]; exact hm
                    have hc : eb_M l yX3_withRegisterWord (Cond.code yX3_withRegisterWord cX3_withRegisterWord 9 (some .int) :: wsL_law) 2 46 D 33 cy cL ad σ [.ref (ad 9), .ref (ad (19 + a0)), .int a1] (some (.int z20.1)) z20.2 := by rw [qz20]; exact c_X3_withRegisterWord l D cy ad σ a0 a1 (by omega)
                    refine eb_callV (n := 2) (as := [.ref (ad (19 + a0)), .int a1]) (rest := []) X hw hl.1 9 hc (by decide) ⟨rfl, rfl, rfl⟩ (eb_goodV wi_18_14 wi_18_15 wi_18_16 wi_2_11 wi_18_17) rfl (by decide +kernel) ⟨by decide, by decide⟩ rfl rfl (Nat.le_of_ble_eq_true rfl) dX3_perform_205 ⟨by decide, by decide⟩ (st' := [.int z20.1]) rfl (fun H locs hw => ?_)
                    subst hm
                    exact eb_iret X hw rfl rfl rfl dX3_perform_208
                  · have hm := (if_neg h19).symm.trans hm
                    by_cases h21 : (a1 &&& 127) = 99
                    · have hm := (if_pos h21).symm.trans hm
                      refine lv_lookup (off := 205) (tgt := 209) hx hb dX3_perform_4 (by decide) (by rw [h21]; decide) (by decide) ?_
                      refine lv_aload_n hx hb dX3_perform_209 rfl (lv_at hl 0 rfl) ?_
                      refine lv_aload_n hx hb dX3_perform_210 rfl (lv_at hl 1 rfl) ?_
                      refine lv_iload_n hx hb dX3_perform_211 rfl (lv_at hl 2 rfl) ?_
                      obtain ⟨z22, qz22⟩ : ∃ t : Int32 × eb_St, t = m_X3_branch σ a0 a1 := ⟨_, rfl⟩
                      have hm : (z22.1, z22.2) = mm := by rw [qz22]; exact hm
                      have hc : eb_M l yX3_branch (Cond.code yX3_branch cX3_branch 6 (some .int) :: wsL_law) 3 70 D 33 cy cL ad σ [.ref (ad 9), .ref (ad (19 + a0)), .int a1] (some (.int z22.1)) z22.2 := by rw [qz22]; exact c_X3_branch l D cy ad σ a0 a1 (by omega)
                      refine eb_callV (n := 2) (as := [.ref (ad (19 + a0)), .int a1]) (rest := []) X hw hl.1 9 hc (by decide) ⟨rfl, rfl, rfl⟩ (eb_goodV wi_18_22 wi_18_23 wi_19_0 wi_2_11 wi_19_1) rfl (by decide +kernel) ⟨by decide, by decide⟩ rfl rfl (Nat.le_of_ble_eq_true rfl) dX3_perform_212 ⟨by decide, by decide⟩ (st' := [.int z22.1]) rfl (fun H locs hw => ?_)
                      subst hm
                      exact eb_iret X hw rfl rfl rfl dX3_perform_215
                    · have hm := (if_neg h21).symm.trans hm
                      by_cases h23 : (a1 &&& 127) = 103
                      · have hm := (if_pos h23).symm.trans hm
                        refine lv_lookup (off := 212) (tgt := 216) hx hb dX3_perform_4 (by decide) (by rw [h23]; decide) (by decide) ?_
                        refine lv_aload_n hx hb dX3_perform_216 rfl (lv_at hl 0 rfl) ?_
                        refine lv_aload_n hx hb dX3_perform_217 rfl (lv_at hl 1 rfl) ?_
                        refine lv_iload_n hx hb dX3_perform_218 rfl (lv_at hl 2 rfl) ?_
                        obtain ⟨z24, qz24⟩ : ∃ t : Int32 × eb_St, t = m_X3_jumpByRegister σ a0 a1 := ⟨_, rfl⟩
                        have hm : (z24.1, z24.2) = mm := by rw [qz24]; exact hm
                        have hc : eb_M l yX3_jumpByRegister (Cond.code yX3_jumpByRegister cX3_jumpByRegister 3 (some .int) :: wsL_law) 3 70 D 33 cy cL ad σ [.ref (ad 9), .ref (ad (19 + a0)), .int a1] (some (.int z24.1)) z24.2 := by rw [qz24]; exact c_X3_jumpByRegister l D cy ad σ a0 a1 (by omega)
                        refine eb_callV (n := 2) (as := [.ref (ad (19 + a0)), .int a1]) (rest := []) X hw hl.1 9 hc (by decide) ⟨rfl, rfl, rfl⟩ (eb_goodV wi_19_8 wi_19_9 wi_19_10 wi_2_11 wi_19_11) rfl (by decide +kernel) ⟨by decide, by decide⟩ rfl rfl (Nat.le_of_ble_eq_true rfl) dX3_perform_219 ⟨by decide, by decide⟩ (st' := [.int z24.1]) rfl (fun H locs hw => ?_)
                        subst hm
                        exact eb_iret X hw rfl rfl rfl dX3_perform_222
                      · have hm := (if_neg h23).symm.trans hm
                        by_cases h25 : (a1 &&& 127) = 111
                        · have hm := (if_pos h25).symm.trans hm
                          refine lv_lookup (off := 219) (tgt := 223) hx hb dX3_perform_4 (by decide) (by rw [h25]; decide) (by decide) ?_
                          refine lv_aload_n hx hb dX3_perform_223 rfl (lv_at hl 0 rfl) ?_
                          refine lv_aload_n hx hb dX3_perform_224 rfl (lv_at hl 1 rfl) ?_
                          refine lv_iload_n hx hb dX3_perform_225 rfl (lv_at hl 2 rfl) ?_
                          refine lv_aload_n hx hb dX3_perform_226 rfl (lv_at hl 1 rfl) ?_
                          refine eb_get (T := TX7) X hw (19 + a0) 1 (by omega) (cR_i (by omega)) (by decide) (fun _ h => List.mem_cons_of_mem _ (inlX7 _ h)) (List.mem_cons_of_mem _ wi_14_15) (v := .long (σ.2 (19 + a0) 1)) (eb_sJ (cR_t (by omega) 1)) dX3_perform_227 ?_
                          refine lv_iload_n hx hb dX3_perform_230 rfl (lv_at hl 2 rfl) ?_
                          obtain ⟨z26, qz26⟩ : ∃ t : Int32, t = m_X3_jumpOffset a1 := ⟨_, rfl⟩
                          have hm : (fun (z27 : Int32 × eb_St) => (z27.1, z27.2)) (m_X3_jump σ a0 a1 ((σ.2 (19 + a0) 1) + z26.toInt64)) = mm := by rw [qz26]; exact hm
                          have hc : eb_M l yX3_jumpOffset (Cond.code yX3_jumpOffset cX3_jumpOffset 1 (some .int) :: wsL_law) 0 0 D 33 cy cL ad σ [.int a1] (some (.int z26)) σ := by rw [qz26]; exact c_X3_jumpOffset l D cy ad σ a1
                          refine eb_callS (n := 1) X hw hl.1 (rest := [.long (σ.2 (19 + a0) 1), .int a1, .ref (ad (19 + a0)), .ref (ad 9)]) hc (eb_goodS wi_19_17 wi_19_18 wi_2_11 wi_19_19) rfl (by decide +kernel) ⟨by decide, by decide⟩ rfl rfl (Nat.le_of_ble_eq_true rfl) dX3_perform_231 ⟨by decide, by decide⟩ (st' := [.int z26, .long (σ.2 (19 + a0) 1), .int a1, .ref (ad (19 + a0)), .ref (ad 9)]) rfl (fun H locs hw => ?_)
                          refine lv_i2l (v := z26.toInt64) hx hb dX3_perform_234 rfl ?_
                          refine lv_ladd hx hb dX3_perform_235 ?_
                          obtain ⟨z27, qz27⟩ : ∃ t : Int32 × eb_St, t = m_X3_jump σ a0 a1 ((σ.2 (19 + a0) 1) + z26.toInt64) := ⟨_, rfl⟩
                          have hm : (z27.1, z27.2) = mm := by rw [qz27]; exact hm
                          have hc : eb_M l yX3_jump (Cond.code yX3_jump cX3_jump 5 (some .int) :: wsL_law) 2 46 D 33 cy cL ad σ [.ref (ad 9), .ref (ad (19 + a0)), .int a1, .long ((σ.2 (19 + a0) 1) + z26.toInt64)] (some (.int z27.1)) z27.2 := by rw [qz27]; exact c_X3_jump l D cy ad σ a0 a1 ((σ.2 (19 + a0) 1) + z26.toInt64) (by omega)
                          refine eb_callV (n := 3) (as := [.ref (ad (19 + a0)), .int a1, .long ((σ.2 (19 + a0) 1) + z26.toInt64)]) (rest := []) X hw hl.1 9 hc (by decide) ⟨rfl, rfl, rfl⟩ (eb_goodV wi_19_13 wi_19_14 wi_19_15 wi_2_11 wi_19_16) rfl (by decide +kernel) ⟨by decide, by decide⟩ rfl rfl (Nat.le_of_ble_eq_true rfl) dX3_perform_236 ⟨by decide, by decide⟩ (st' := [.int z27.1]) rfl (fun H locs hw => ?_)
                          subst hm
                          exact eb_iret X hw rfl rfl rfl dX3_perform_239
                        · have hm := (if_neg h25).symm.trans hm
                          by_cases h28 : (a1 &&& 127) = 115
                          · have hm := (if_pos h28).symm.trans hm
                            refine lv_lookup (off := 236) (tgt := 240) hx hb dX3_perform_4 (by decide) (by rw [h28]; decide) (by decide) ?_
                            refine lv_iload_n hx hb dX3_perform_240 rfl (lv_at hl 2 rfl) ?_
                            obtain ⟨z29, qz29⟩ : ∃ t : Int32, t = m_X3_kind a1 := ⟨_, rfl⟩
                            have hm : (if z29 = 0 then (fun (z32 : Int32 × eb_St) => (z32.1, z32.2)) (m_X3_environment σ a0 a1) else (fun (z31 : Int32 × eb_St) => (z31.1, z31.2)) (m_X3_access σ a0 a1)) = mm := by rw [qz29]; exact hm
                            have hc : eb_M l yX3_kind (Cond.code yX3_kind cX3_kind 1 (some .int) :: wsL_law) 0 0 D 33 cy cL ad σ [.int a1] (some (.int z29)) σ := by rw [qz29]; exact c_X3_kind l D cy ad σ a1
                            refine eb_callS (n := 1) X hw hl.1 (rest := []) hc (eb_goodS wi_15_17 wi_15_18 wi_2_11 wi_15_19) rfl (by decide +kernel) ⟨by decide, by decide⟩ rfl rfl (Nat.le_of_ble_eq_true rfl) dX3_perform_241 ⟨by decide, by decide⟩ (st' := [.int z29]) rfl (fun H locs hw => ?_)
                            refine lv_if_ne (tgt := 256) hx hb dX3_perform_244 (by decide) (fun h30 => ?_) (fun h30 => ?_)
                            · have hm := (if_neg h30).symm.trans hm
                              refine lv_aload_n hx hb dX3_perform_256 rfl (lv_at hl 0 rfl) ?_
                              refine lv_aload_n hx hb dX3_perform_257 rfl (lv_at hl 1 rfl) ?_
                              refine lv_iload_n hx hb dX3_perform_258 rfl (lv_at hl 2 rfl) ?_
                              obtain ⟨z31, qz31⟩ : ∃ t : Int32 × eb_St, t = m_X3_access σ a0 a1 := ⟨_, rfl⟩
                              have hm : (z31.1, z31.2) = mm := by rw [qz31]; exact hm
                              have hc : eb_M l yX3_access (Cond.code yX3_access cX3_access 12 (some .int) :: wsL_law) 3 75 D 33 cy cL ad σ [.ref (ad 9), .ref (ad (19 + a0)), .int a1] (some (.int z31.1)) z31.2 := by rw [qz31]; exact c_X3_access l D cy ad σ a0 a1 (by omega)
                              refine eb_callV (n := 2) (as := [.ref (ad (19 + a0)), .int a1]) (rest := []) X hw hl.1 9 hc (by decide) ⟨rfl, rfl, rfl⟩ (eb_goodV wi_20_7 wi_20_8 wi_20_9 wi_2_11 wi_20_10) rfl (by decide +kernel) ⟨by decide, by decide⟩ rfl rfl (Nat.le_of_ble_eq_true rfl) dX3_perform_259 ⟨by decide, by decide⟩ (st' := [.int z31.1]) rfl (fun H locs hw => ?_)
                              subst hm
                              exact eb_iret X hw rfl rfl rfl dX3_perform_262
                            · have hm := (if_pos h30).symm.trans hm
                              refine lv_aload_n hx hb dX3_perform_247 rfl (lv_at hl 0 rfl) ?_
                              refine lv_aload_n hx hb dX3_perform_248 rfl (lv_at hl 1 rfl) ?_
                              refine lv_iload_n hx hb dX3_perform_249 rfl (lv_at hl 2 rfl) ?_
                              obtain ⟨z32, qz32⟩ : ∃ t : Int32 × eb_St, t = m_X3_environment σ a0 a1 := ⟨_, rfl⟩
                              have hm : (z32.1, z32.2) = mm := by rw [qz32]; exact hm
                              have hc : eb_M l yX3_environment (Cond.code yX3_environment cX3_environment 3 (some .int) :: wsL_law) 2 44 D 33 cy cL ad σ [.ref (ad 9), .ref (ad (19 + a0)), .int a1] (some (.int z32.1)) z32.2 := by rw [qz32]; exact c_X3_environment l D cy ad σ a0 a1 (by omega)
                              refine eb_callV (n := 2) (as := [.ref (ad (19 + a0)), .int a1]) (rest := []) X hw hl.1 9 hc (by decide) ⟨rfl, rfl, rfl⟩ (eb_goodV wi_19_21 wi_19_22 wi_19_23 wi_2_11 wi_20_0) rfl (by decide +kernel) ⟨by decide, by decide⟩ rfl rfl (Nat.le_of_ble_eq_true rfl) dX3_perform_250 ⟨by decide, by decide⟩ (st' := [.int z32.1]) rfl (fun H locs hw => ?_)
                              refine lv_goto (tgt := 262) hx hb dX3_perform_253 (by decide) ?_
                              subst hm
                              exact eb_iret X hw rfl rfl rfl dX3_perform_262
                          · have hm := (if_neg h28).symm.trans hm
                            refine lv_lookup (off := 259) (tgt := 263) hx hb dX3_perform_4 (by decide) (by show Op.lookupswitch.offset [(3, 116), (15, 123), (19, 141), (23, 148), (27, 165), (35, 172), (51, 179), (55, 186), (59, 198), (99, 205), (103, 212), (111, 219), (115, 236)] _ _ = _; rw [lv_osw h1 (by decide)]; rw [lv_osw h3 (by decide)]; rw [lv_osw h7 (by decide)]; rw [lv_osw h9 (by decide)]; rw [lv_osw h11 (by decide)]; rw [lv_osw h13 (by decide)]; rw [lv_osw h15 (by decide)]; rw [lv_osw h17 (by decide)]; rw [lv_osw h19 (by decide)]; rw [lv_osw h21 (by decide)]; rw [lv_osw h23 (by decide)]; rw [lv_osw h25 (by decide)]; rw [lv_osw h28 (by decide)]; rfl) (by decide) ?_
                            refine lv_aload_n hx hb dX3_perform_263 rfl (lv_at hl 0 rfl) ?_
                            refine lv_iload_n hx hb dX3_perform_264 rfl (lv_at hl 2 rfl) ?_
                            obtain ⟨z33, qz33⟩ : ∃ t : Int32 × eb_St, t = m_X3_illegal σ a1 := ⟨_, rfl⟩
                            have hm : (z33.1, z33.2) = mm := by rw [qz33]; exact hm
                            have hc : eb_M l yX3_illegal (Cond.code yX3_illegal cX3_illegal 2 (some .int) :: wsL_law) 1 23 D 33 cy cL ad σ [.ref (ad 9), .int a1] (some (.int z33.1)) z33.2 := by rw [qz33]; exact c_X3_illegal l D cy ad σ a1
                            refine eb_callV (n := 1) (as := [.int a1]) (rest := []) X hw hl.1 9 hc (by decide) ⟨rfl, rfl, rfl⟩ (eb_goodV wi_15_20 wi_15_21 wi_15_22 wi_2_11 wi_15_23) rfl (by decide +kernel) ⟨by decide, by decide⟩ rfl rfl (Nat.le_of_ble_eq_true rfl) dX3_perform_265 ⟨by decide, by decide⟩ (st' := [.int z33.1]) rfl (fun H locs hw => ?_)
                            subst hm
                            exact eb_iret X hw rfl rfl rfl dX3_perform_268

set_option maxHeartbeats 4000000 in
set_option maxRecDepth 100000 in
theorem c_X3_execute (l : Launch) (D : va_G) (cy : Nat → ClassId) (ad : Nat → Nat) (σ : eb_St) (a0 : Nat) (ba0 : a0 < 7) : eb_M l yX3_execute (Cond.code yX3_execute cX3_execute 3 (some .int) :: wsL_law) 6 148 D 33 cy cL ad σ [.ref (ad 9), .ref (ad (19 + a0))] (some (.int (m_X3_execute σ a0).1)) ((m_X3_execute σ a0).2) := by
  refine eb_start (own := RX3) (by decide) rfl rfl (Nat.le_of_ble_eq_true rfl) ?_
  intro p e s m args below meth c A ls X hw hl
  have hl : lv_has ls 3 [(0, .ref (ad 9)), (1, .ref (ad (19 + a0)))] := hl
  have hx := X.1.1
  have hb := X.1.2.1
  have hown := X.1.2.2.2.1
  have hts := X.1.2.2.2.2
  generalize hm : m_X3_execute σ a0 = mm
  have hm : (if ((σ.2 (19 + a0) 1) &&& 3) = 0 then (fun (z2 : Bool) => (if (eb_b z2) = 0 then (fun (z8 : Int32 × eb_St) => (z8.1, z8.2)) (m_X3_fault σ 1 (σ.2 (19 + a0) 1)) else (fun (z4 : Int64) => (fun (z5 : Int32 × eb_St) => (fun (x6 : Int32) => (if x6 = (-1) then (x6, eb_pJ z5.2 (19 + a0) 1 (z5.2.2 9 5)) else (x6, z5.2))) (z5.1)) (m_X3_perform (eb_pJ σ 9 5 ((σ.2 (19 + a0) 1) + 4)) a0 z4.toInt32)) (m_X4_load (eb_pJ σ 9 5 ((σ.2 (19 + a0) 1) + 4)) (((eb_pJ σ 9 5 ((σ.2 (19 + a0) 1) + 4)).2 (19 + a0) 1).toInt32) 4))) (m_X6_lets σ (σ.1 9 3) (σ.2 (19 + a0) 1) 4 4) else (fun (z9 : Int32 × eb_St) => (z9.1, z9.2)) (m_X3_fault σ 0 (σ.2 (19 + a0) 1))) = mm := hm
  refine lv_aload_n hx hb dX3_execute_0 rfl (lv_at hl 1 rfl) ?_
  refine eb_get (T := TX7) X hw (19 + a0) 1 (by omega) (cR_i (by omega)) (by decide) (fun _ h => List.mem_cons_of_mem _ (inlX7 _ h)) (List.mem_cons_of_mem _ wi_14_15) (v := .long (σ.2 (19 + a0) 1)) (eb_sJ (cR_t (by omega) 1)) dX3_execute_1 ?_
  refine lv_ldc2 hx hb hown (hts _ (List.mem_cons_of_mem _ wi_14_16)) dX3_execute_4 ?_
  refine lv_land hx hb dX3_execute_7 ?_
  refine lv_lconst (v := 0) hx hb dX3_execute_8 (by decide) ?_
  refine eb_lif_eq (tgt := 23) hx hb dX3_execute_9 dX3_execute_10 (by decide) (fun h1 => ?_) (fun h1 => ?_)
  · have hm := (if_pos h1).symm.trans hm
    refine lv_aload_n hx hb dX3_execute_23 rfl (lv_at hl 0 rfl) ?_
    refine eb_get (T := TX3) X hw 9 1 (by decide) ⟨rfl, rfl, rfl⟩ (by decide) (fun _ h => List.mem_cons_of_mem _ (inlX3 _ h)) (List.mem_cons_of_mem _ wi_3_23) (v := .ref (ad 3)) rfl dX3_execute_24 ?_
    refine lv_aload_n hx hb dX3_execute_27 rfl (lv_at hl 0 rfl) ?_
    refine eb_get (T := TX3) X hw 9 3 (by decide) ⟨rfl, rfl, rfl⟩ (by decide) (fun _ h => List.mem_cons_of_mem _ (inlX3 _ h)) (List.mem_cons_of_mem _ wi_3_21) (v := .int (σ.1 9 3)) rfl dX3_execute_28 ?_
    refine lv_aload_n hx hb dX3_execute_31 rfl (lv_at hl 1 rfl) ?_
    refine eb_get (T := TX7) X hw (19 + a0) 1 (by omega) (cR_i (by omega)) (by decide) (fun _ h => List.mem_cons_of_mem _ (inlX7 _ h)) (List.mem_cons_of_mem _ wi_14_15) (v := .long (σ.2 (19 + a0) 1)) (eb_sJ (cR_t (by omega) 1)) dX3_execute_32 ?_
    refine lv_iconst (v := 4) hx hb dX3_execute_35 (by decide) ?_
    refine lv_iconst (v := 4) hx hb dX3_execute_36 (by decide) ?_
    obtain ⟨z2, qz2⟩ : ∃ t : Bool, t = m_X6_lets σ (σ.1 9 3) (σ.2 (19 + a0) 1) 4 4 := ⟨_, rfl⟩
    have hm : (if (eb_b z2) = 0 then (fun (z8 : Int32 × eb_St) => (z8.1, z8.2)) (m_X3_fault σ 1 (σ.2 (19 + a0) 1)) else (fun (z4 : Int64) => (fun (z5 : Int32 × eb_St) => (fun (x6 : Int32) => (if x6 = (-1) then (x6, eb_pJ z5.2 (19 + a0) 1 (z5.2.2 9 5)) else (x6, z5.2))) (z5.1)) (m_X3_perform (eb_pJ σ 9 5 ((σ.2 (19 + a0) 1) + 4)) a0 z4.toInt32)) (m_X4_load (eb_pJ σ 9 5 ((σ.2 (19 + a0) 1) + 4)) (((eb_pJ σ 9 5 ((σ.2 (19 + a0) 1) + 4)).2 (19 + a0) 1).toInt32) 4)) = mm := by rw [qz2]; exact hm
    have hc : eb_M l yX6_lets (Cond.code yX6_lets cX6_lets 8 (some .boolean) :: wsL_law) 1 23 D 33 cy cL ad σ [.ref (ad 3), .int (σ.1 9 3), .long (σ.2 (19 + a0) 1), .int 4, .int 4] (some (.int (eb_b z2))) σ := by rw [qz2]; exact c_X6_lets l D cy ad σ (σ.1 9 3) (σ.2 (19 + a0) 1) 4 4
    refine eb_callV (n := 4) (as := [.int (σ.1 9 3), .long (σ.2 (19 + a0) 1), .int 4, .int 4]) (rest := []) X hw hl.1 3 hc (by decide) ⟨rfl, rfl, rfl⟩ (eb_goodV wi_15_0 wi_15_1 wi_15_2 wi_1_23 wi_15_3) rfl (by decide +kernel) ⟨by decide, by decide⟩ rfl rfl (Nat.le_of_ble_eq_true rfl) dX3_execute_37 ⟨by decide, by decide⟩ (st' := [.int (eb_b z2)]) rfl (fun H locs hw => ?_)
    refine lv_if_ne (tgt := 53) hx hb dX3_execute_40 (by decide) (fun h3 => ?_) (fun h3 => ?_)
    · have hm := (if_neg h3).symm.trans hm
      refine lv_aload_n hx hb dX3_execute_53 rfl (lv_at hl 0 rfl) ?_
      refine lv_aload_n hx hb dX3_execute_54 rfl (lv_at hl 1 rfl) ?_
      refine eb_get (T := TX7) X hw (19 + a0) 1 (by omega) (cR_i (by omega)) (by decide) (fun _ h => List.mem_cons_of_mem _ (inlX7 _ h)) (List.mem_cons_of_mem _ wi_14_15) (v := .long (σ.2 (19 + a0) 1)) (eb_sJ (cR_t (by omega) 1)) dX3_execute_55 ?_
      refine lv_ldc2 hx hb hown (hts _ (List.mem_cons_of_mem _ wi_14_17)) dX3_execute_58 ?_
      refine lv_ladd hx hb dX3_execute_61 ?_
      refine eb_putJ (T := TX3) X hw 9 5 (by decide) ⟨rfl, rfl, rfl⟩ (by decide) rfl (fun _ h => List.mem_cons_of_mem _ (inlX3 _ h)) (List.mem_cons_of_mem _ wi_14_18) tyX3 tyX3_ok nmX3 rfl rfl rfl dX3_execute_62 (fun H locs hw => ?_)
      refine lv_aload_n hx hb dX3_execute_65 rfl (lv_at hl 0 rfl) ?_
      refine lv_aload_n hx hb dX3_execute_66 rfl (lv_at hl 1 rfl) ?_
      refine lv_aload_n hx hb dX3_execute_67 rfl (lv_at hl 0 rfl) ?_
      refine eb_get (T := TX3) X hw 9 0 (by decide) ⟨rfl, rfl, rfl⟩ (by decide) (fun _ h => List.mem_cons_of_mem _ (inlX3 _ h)) (List.mem_cons_of_mem _ wi_3_22) (v := .ref (ad 1)) rfl dX3_execute_68 ?_
      refine lv_aload_n hx hb dX3_execute_71 rfl (lv_at hl 1 rfl) ?_
      refine eb_get (T := TX7) X hw (19 + a0) 1 (by omega) (cR_i (by omega)) (by decide) (fun _ h => List.mem_cons_of_mem _ (inlX7 _ h)) (List.mem_cons_of_mem _ wi_14_15) (v := .long ((eb_pJ σ 9 5 ((σ.2 (19 + a0) 1) + 4)).2 (19 + a0) 1)) (eb_sJ (cR_t (by omega) 1)) dX3_execute_72 ?_
      refine lv_l2i (v := ((eb_pJ σ 9 5 ((σ.2 (19 + a0) 1) + 4)).2 (19 + a0) 1).toInt32) hx hb dX3_execute_75 rfl ?_
      refine lv_iconst (v := 4) hx hb dX3_execute_76 (by decide) ?_
      obtain ⟨z4, qz4⟩ : ∃ t : Int64, t = m_X4_load (eb_pJ σ 9 5 ((σ.2 (19 + a0) 1) + 4)) (((eb_pJ σ 9 5 ((σ.2 (19 + a0) 1) + 4)).2 (19 + a0) 1).toInt32) 4 := ⟨_, rfl⟩
      have hm : (fun (z5 : Int32 × eb_St) => (fun (x6 : Int32) => (if x6 = (-1) then (x6, eb_pJ z5.2 (19 + a0) 1 (z5.2.2 9 5)) else (x6, z5.2))) (z5.1)) (m_X3_perform (eb_pJ σ 9 5 ((σ.2 (19 + a0) 1) + 4)) a0 z4.toInt32) = mm := by rw [qz4]; exact hm
      have hc : eb_M l yX4_load (Cond.code yX4_load cX4_load 3 (some .long) :: wsL_law) 1 20 D 33 cy cL ad (eb_pJ σ 9 5 ((σ.2 (19 + a0) 1) + 4)) [.ref (ad 1), .int (((eb_pJ σ 9 5 ((σ.2 (19 + a0) 1) + 4)).2 (19 + a0) 1).toInt32), .int 4] (some (.long z4)) (eb_pJ σ 9 5 ((σ.2 (19 + a0) 1) + 4)) := by rw [qz4]; exact c_X4_load l D cy ad (eb_pJ σ 9 5 ((σ.2 (19 + a0) 1) + 4)) (((eb_pJ σ 9 5 ((σ.2 (19 + a0) 1) + 4)).2 (19 + a0) 1).toInt32) 4
      refine eb_callV (n := 2) (as := [.int (((eb_pJ σ 9 5 ((σ.2 (19 + a0) 1) + 4)).2 (19 + a0) 1).toInt32), .int 4]) (rest := [.ref (ad (19 + a0)), .ref (ad 9)]) X hw hl.1 1 hc (by decide) ⟨rfl, rfl, rfl⟩ (eb_goodV wi_15_8 wi_11_17 wi_11_18 wi_1_19 wi_11_19) rfl (by decide +kernel) ⟨by decide, by decide⟩ rfl rfl (Nat.le_of_ble_eq_true rfl) dX3_execute_77 ⟨by decide, by decide⟩ (st' := [.long z4, .ref (ad (19 + a0)), .ref (ad 9)]) rfl (fun H locs hw => ?_)
      refine lv_l2i (v := z4.toInt32) hx hb dX3_execute_80 rfl ?_
      obtain ⟨z5, qz5⟩ : ∃ t : Int32 × eb_St, t = m_X3_perform (eb_pJ σ 9 5 ((σ.2 (19 + a0) 1) + 4)) a0 z4.toInt32 := ⟨_, rfl⟩
      have hm : (fun (x6 : Int32) => (if x6 = (-1) then (x6, eb_pJ z5.2 (19 + a0) 1 (z5.2.2 9 5)) else (x6, z5.2))) (z5.1) = mm := by rw [qz5]; exact hm
      have hc : eb_M l yX3_perform (Cond.code yX3_perform cX3_perform 3 (some .int) :: wsL_law) 5 126 D 33 cy cL ad (eb_pJ σ 9 5 ((σ.2 (19 + a0) 1) + 4)) [.ref (ad 9), .ref (ad (19 + a0)), .int z4.toInt32] (some (.int z5.1)) z5.2 := by rw [qz5]; exact c_X3_perform l D cy ad (eb_pJ σ 9 5 ((σ.2 (19 + a0) 1) + 4)) a0 z4.toInt32 (by omega)
      refine eb_callV (n := 2) (as := [.ref (ad (19 + a0)), .int z4.toInt32]) (rest := []) X hw hl.1 9 hc (by decide) ⟨rfl, rfl, rfl⟩ (eb_goodV wi_15_9 wi_15_10 wi_15_11 wi_2_11 wi_15_12) rfl (by decide +kernel) ⟨by decide, by decide⟩ rfl rfl (Nat.le_of_ble_eq_true rfl) dX3_execute_81 ⟨by decide, by decide⟩ (st' := [.int z5.1]) rfl (fun H locs hw => ?_)
      refine lv_topi (fun x6 ex6 => ?_)
      have hm : (if x6 = (-1) then (x6, eb_pJ z5.2 (19 + a0) 1 (z5.2.2 9 5)) else (x6, z5.2)) = mm := by rw [ex6]; exact hm
      refine lv_istore_n (lv' := [(2, .int x6), (0, .ref (ad 9)), (1, .ref (ad (19 + a0)))]) hx hb dX3_execute_84 rfl hl (by decide) rfl (fun ls hl => ?_)
      refine lv_iload_n hx hb dX3_execute_85 rfl (lv_at hl 0 rfl) ?_
      refine lv_iconst (v := (-1)) hx hb dX3_execute_86 (by decide) ?_
      refine lv_icmp_ne (tgt := 98) hx hb dX3_execute_87 (by decide) (fun h7 => ?_) (fun h7 => ?_)
      · have hm := (if_neg h7).symm.trans hm
        refine lv_iload_n hx hb dX3_execute_98 rfl (lv_at hl 0 rfl) ?_
        subst hm
        exact eb_iret X hw rfl rfl rfl dX3_execute_99
      · have hm := (if_pos h7).symm.trans hm
        refine lv_aload_n hx hb dX3_execute_90 rfl (lv_at hl 2 rfl) ?_
        refine lv_aload_n hx hb dX3_execute_91 rfl (lv_at hl 1 rfl) ?_
        refine eb_get (T := TX3) X hw 9 5 (by decide) ⟨rfl, rfl, rfl⟩ (by decide) (fun _ h => List.mem_cons_of_mem _ (inlX3 _ h)) (List.mem_cons_of_mem _ wi_14_18) (v := .long (z5.2.2 9 5)) rfl dX3_execute_92 ?_
        refine eb_putJ (T := TX7) X hw (19 + a0) 1 (by omega) (cR_i (by omega)) (by decide) (cR_t (by omega) 1) (fun _ h => List.mem_cons_of_mem _ (inlX7 _ h)) (List.mem_cons_of_mem _ wi_14_15) tyX7 tyX7_ok nmX7 rfl rfl rfl dX3_execute_95 (fun H locs hw => ?_)
        refine lv_iload_n hx hb dX3_execute_98 rfl (lv_at hl 0 rfl) ?_
        subst hm
        exact eb_iret X hw rfl rfl rfl dX3_execute_99
    · have hm := (if_pos h3).symm.trans hm
      refine lv_aload_n hx hb dX3_execute_43 rfl (lv_at hl 0 rfl) ?_
      refine lv_iconst (v := 1) hx hb dX3_execute_44 (by decide) ?_
      refine lv_aload_n hx hb dX3_execute_45 rfl (lv_at hl 1 rfl) ?_
      refine eb_get (T := TX7) X hw (19 + a0) 1 (by omega) (cR_i (by omega)) (by decide) (fun _ h => List.mem_cons_of_mem _ (inlX7 _ h)) (List.mem_cons_of_mem _ wi_14_15) (v := .long (σ.2 (19 + a0) 1)) (eb_sJ (cR_t (by omega) 1)) dX3_execute_46 ?_
      obtain ⟨z8, qz8⟩ : ∃ t : Int32 × eb_St, t = m_X3_fault σ 1 (σ.2 (19 + a0) 1) := ⟨_, rfl⟩
      have hm : (z8.1, z8.2) = mm := by rw [qz8]; exact hm
      have hc : eb_M l yX3_fault (Cond.code yX3_fault cX3_fault 4 (some .int) :: wsL_law) 0 0 D 33 cy cL ad σ [.ref (ad 9), .int 1, .long (σ.2 (19 + a0) 1)] (some (.int z8.1)) z8.2 := by rw [qz8]; exact c_X3_fault l D cy ad σ 1 (σ.2 (19 + a0) 1)
      refine eb_callV (n := 2) (as := [.int 1, .long (σ.2 (19 + a0) 1)]) (rest := []) X hw hl.1 9 hc (by decide) ⟨rfl, rfl, rfl⟩ (eb_goodV wi_14_19 wi_14_20 wi_14_21 wi_2_11 wi_14_22) rfl (by decide +kernel) ⟨by decide, by decide⟩ rfl rfl (Nat.le_of_ble_eq_true rfl) dX3_execute_49 ⟨by decide, by decide⟩ (st' := [.int z8.1]) rfl (fun H locs hw => ?_)
      subst hm
      exact eb_iret X hw rfl rfl rfl dX3_execute_52
  · have hm := (if_neg h1).symm.trans hm
    refine lv_aload_n hx hb dX3_execute_13 rfl (lv_at hl 0 rfl) ?_
    refine lv_iconst (v := 0) hx hb dX3_execute_14 (by decide) ?_
    refine lv_aload_n hx hb dX3_execute_15 rfl (lv_at hl 1 rfl) ?_
    refine eb_get (T := TX7) X hw (19 + a0) 1 (by omega) (cR_i (by omega)) (by decide) (fun _ h => List.mem_cons_of_mem _ (inlX7 _ h)) (List.mem_cons_of_mem _ wi_14_15) (v := .long (σ.2 (19 + a0) 1)) (eb_sJ (cR_t (by omega) 1)) dX3_execute_16 ?_
    obtain ⟨z9, qz9⟩ : ∃ t : Int32 × eb_St, t = m_X3_fault σ 0 (σ.2 (19 + a0) 1) := ⟨_, rfl⟩
    have hm : (z9.1, z9.2) = mm := by rw [qz9]; exact hm
    have hc : eb_M l yX3_fault (Cond.code yX3_fault cX3_fault 4 (some .int) :: wsL_law) 0 0 D 33 cy cL ad σ [.ref (ad 9), .int 0, .long (σ.2 (19 + a0) 1)] (some (.int z9.1)) z9.2 := by rw [qz9]; exact c_X3_fault l D cy ad σ 0 (σ.2 (19 + a0) 1)
    refine eb_callV (n := 2) (as := [.int 0, .long (σ.2 (19 + a0) 1)]) (rest := []) X hw hl.1 9 hc (by decide) ⟨rfl, rfl, rfl⟩ (eb_goodV wi_14_19 wi_14_20 wi_14_21 wi_2_11 wi_14_22) rfl (by decide +kernel) ⟨by decide, by decide⟩ rfl rfl (Nat.le_of_ble_eq_true rfl) dX3_execute_19 ⟨by decide, by decide⟩ (st' := [.int z9.1]) rfl (fun H locs hw => ?_)
    subst hm
    exact eb_iret X hw rfl rfl rfl dX3_execute_22
