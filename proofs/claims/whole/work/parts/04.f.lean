def m_X10_hostCalls (σ : eb_St)  : eb_St := (fun (z1 : Int64) => (if z1 = 1 then (fun (z24 : Int64 × eb_St) => (fun (z25 : eb_St) => z25) (m_X10_give z24.2 10 z24.1)) (m_X10_create σ) else (if z1 < 2 then (fun (z4 : eb_St) => z4) (m_X10_give σ 10 (-1)) else (if (4 : Int64) < z1 then (fun (z6 : eb_St) => z6) (m_X10_give σ 10 (-1)) else (fun (z7 : Int64) => (fun (z8 : Bool) => (if (eb_b z8) = 0 then (fun (z10 : eb_St) => z10) (m_X10_give σ 10 (-1)) else (fun (z11 : Int64) => (fun (z12 : Bool) => (if (eb_b z12) = 0 then (fun (z14 : eb_St) => z14) (m_X10_give σ 10 (-1)) else (fun (z15 : Int64) => (fun (x16 : Int32) => (if z1 = 2 then (fun (z23 : eb_St) => z23) (m_X10_enter σ x16) else (if z1 = 3 then (fun (z21 : eb_St) => (fun (z22 : eb_St) => z22) (m_X10_give (eb_pI (eb_pI z21 6 x16.toNatClampNeg 0) 0 35 0) 10 0)) (m_X10_clearMemory σ x16) else (fun (z19 : eb_St) => (fun (z20 : eb_St) => z20) (m_X10_give z19 11 (z19.2 14 x16.toNatClampNeg))) (m_X10_give σ 10 ((σ.1 6 x16.toNatClampNeg).toInt64))))) (z15.toInt32)) (m_X10_x σ 10))) (m_X10_isLive σ z11.toInt32)) (m_X10_x σ 10))) (m_X10_in z7 0 5)) (m_X10_x σ 10))))) (m_X10_x σ 17)

def m_X10_system (σ : eb_St) (a0 : Int64) : Int32 × eb_St := (if (σ.1 0 41) = 4 then (fun (z22 : Int32 × eb_St) => (z22.1, z22.2)) (m_X10_illegal σ) else (if (σ.1 0 41) = 0 then (if (σ.1 0 37) = 115 then (if (σ.1 0 4) = 0 then (fun (z5 : Int32) => (if (σ.1 0 8) < 0 then (fun (z7 : eb_St) => ((-1), z7)) (m_X10_hostCalls (eb_pJ σ 3 z5.toNatClampNeg (a0 + 4))) else (fun (z8 : eb_St) => ((-1), z8)) (m_X10_enclaveCalls (eb_pJ σ 3 z5.toNatClampNeg (a0 + 4))))) (m_X10_set σ) else (fun (z9 : Int32 × eb_St) => (z9.1, z9.2)) (m_X10_fault σ 11 0)) else if (σ.1 0 37) = 1048691 then (fun (z11 : Int32 × eb_St) => (z11.1, z11.2)) (m_X10_fault σ 3 a0) else if (σ.1 0 37) = 273678451 then (fun (z13 : Int32 × eb_St) => (z13.1, z13.2)) (m_X10_goesOn σ) else if (σ.1 0 37) = 807403635 then (if (σ.1 0 4) = 0 then (fun (z17 : Int32 × eb_St) => (z17.1, z17.2)) (m_X10_illegal σ) else (if (σ.2 0 15) = 3 then ((-1), eb_pJ (eb_pI (eb_pJ σ 3 ((6 : Int32).toNatClampNeg) (σ.2 0 17)) 0 4 1) 0 15 0) else ((-1), eb_pJ (eb_pI (eb_pJ σ 3 ((6 : Int32).toNatClampNeg) (σ.2 0 17)) 0 4 0) 0 15 0))) else (fun (z18 : Int32 × eb_St) => (z18.1, z18.2)) (m_X10_illegal σ)) else (if (σ.1 0 4) = 0 then (fun (z20 : Int32 × eb_St) => (z20.1, z20.2)) (m_X10_illegal σ) else (fun (z21 : Int32 × eb_St) => (z21.1, z21.2)) (m_X10_csr σ))))

def m_X10_instruction (σ : eb_St)  : Int32 × eb_St := (fun (z1 : Int32) => (fun (x2 : Int64) => (if (x2 &&& 3) = 0 then (fun (z4 : Bool) => (if (eb_b z4) = 0 then (fun (z6 : Int32 × eb_St) => (z6.1, z6.2)) (m_X10_fault σ 1 x2) else (fun (z7 : Bool × eb_St) => (if (eb_b z7.1) = 0 then (fun (z43 : Int32 × eb_St) => (z43.1, z43.2)) (m_X10_fault z7.2 1 x2) else (fun (z9 : Int64) => (if (z9.toInt32 &&& 127) = 3 then (fun (z11 : Int32 × eb_St) => (z11.1, z11.2)) (m_X10_loads (eb_pI (eb_pI (eb_pI (eb_pI (eb_pI (eb_pI z7.2 0 37 z9.toInt32) 0 38 ((z9.toInt32 >>> (7 &&& 31)) &&& 31)) 0 41 ((z9.toInt32 >>> (12 &&& 31)) &&& 7)) 0 39 ((z9.toInt32 >>> (15 &&& 31)) &&& 31)) 0 40 ((z9.toInt32 >>> (20 &&& 31)) &&& 31)) 0 42 (eb_iushr z9.toInt32 25))) else if (z9.toInt32 &&& 127) = 15 then (if ((z9.toInt32 >>> (12 &&& 31)) &&& 7) ≤ 1 then (fun (z14 : Int32 × eb_St) => (z14.1, z14.2)) (m_X10_goesOn (eb_pI (eb_pI (eb_pI (eb_pI (eb_pI (eb_pI z7.2 0 37 z9.toInt32) 0 38 ((z9.toInt32 >>> (7 &&& 31)) &&& 31)) 0 41 ((z9.toInt32 >>> (12 &&& 31)) &&& 7)) 0 39 ((z9.toInt32 >>> (15 &&& 31)) &&& 31)) 0 40 ((z9.toInt32 >>> (20 &&& 31)) &&& 31)) 0 42 (eb_iushr z9.toInt32 25))) else (fun (z15 : Int32 × eb_St) => (z15.1, z15.2)) (m_X10_illegal (eb_pI (eb_pI (eb_pI (eb_pI (eb_pI (eb_pI z7.2 0 37 z9.toInt32) 0 38 ((z9.toInt32 >>> (7 &&& 31)) &&& 31)) 0 41 ((z9.toInt32 >>> (12 &&& 31)) &&& 7)) 0 39 ((z9.toInt32 >>> (15 &&& 31)) &&& 31)) 0 40 ((z9.toInt32 >>> (20 &&& 31)) &&& 31)) 0 42 (eb_iushr z9.toInt32 25)))) else if (z9.toInt32 &&& 127) = 19 then (fun (z17 : Int32 × eb_St) => (z17.1, z17.2)) (m_X10_immediate (eb_pI (eb_pI (eb_pI (eb_pI (eb_pI (eb_pI z7.2 0 37 z9.toInt32) 0 38 ((z9.toInt32 >>> (7 &&& 31)) &&& 31)) 0 41 ((z9.toInt32 >>> (12 &&& 31)) &&& 7)) 0 39 ((z9.toInt32 >>> (15 &&& 31)) &&& 31)) 0 40 ((z9.toInt32 >>> (20 &&& 31)) &&& 31)) 0 42 (eb_iushr z9.toInt32 25))) else if (z9.toInt32 &&& 127) = 23 then (fun (z19 : Int32 × eb_St) => (z19.1, z19.2)) (m_X10_sets (eb_pI (eb_pI (eb_pI (eb_pI (eb_pI (eb_pI z7.2 0 37 z9.toInt32) 0 38 ((z9.toInt32 >>> (7 &&& 31)) &&& 31)) 0 41 ((z9.toInt32 >>> (12 &&& 31)) &&& 7)) 0 39 ((z9.toInt32 >>> (15 &&& 31)) &&& 31)) 0 40 ((z9.toInt32 >>> (20 &&& 31)) &&& 31)) 0 42 (eb_iushr z9.toInt32 25)) (x2 + ((z9.toInt32 &&& (-4096)).toInt64))) else if (z9.toInt32 &&& 127) = 27 then (fun (z21 : Int32 × eb_St) => (z21.1, z21.2)) (m_X10_immediateW (eb_pI (eb_pI (eb_pI (eb_pI (eb_pI (eb_pI z7.2 0 37 z9.toInt32) 0 38 ((z9.toInt32 >>> (7 &&& 31)) &&& 31)) 0 41 ((z9.toInt32 >>> (12 &&& 31)) &&& 7)) 0 39 ((z9.toInt32 >>> (15 &&& 31)) &&& 31)) 0 40 ((z9.toInt32 >>> (20 &&& 31)) &&& 31)) 0 42 (eb_iushr z9.toInt32 25))) else if (z9.toInt32 &&& 127) = 35 then (fun (z23 : Int32 × eb_St) => (z23.1, z23.2)) (m_X10_stores (eb_pI (eb_pI (eb_pI (eb_pI (eb_pI (eb_pI z7.2 0 37 z9.toInt32) 0 38 ((z9.toInt32 >>> (7 &&& 31)) &&& 31)) 0 41 ((z9.toInt32 >>> (12 &&& 31)) &&& 7)) 0 39 ((z9.toInt32 >>> (15 &&& 31)) &&& 31)) 0 40 ((z9.toInt32 >>> (20 &&& 31)) &&& 31)) 0 42 (eb_iushr z9.toInt32 25))) else if (z9.toInt32 &&& 127) = 51 then (fun (z25 : Int32 × eb_St) => (z25.1, z25.2)) (m_X10_registers (eb_pI (eb_pI (eb_pI (eb_pI (eb_pI (eb_pI z7.2 0 37 z9.toInt32) 0 38 ((z9.toInt32 >>> (7 &&& 31)) &&& 31)) 0 41 ((z9.toInt32 >>> (12 &&& 31)) &&& 7)) 0 39 ((z9.toInt32 >>> (15 &&& 31)) &&& 31)) 0 40 ((z9.toInt32 >>> (20 &&& 31)) &&& 31)) 0 42 (eb_iushr z9.toInt32 25))) else if (z9.toInt32 &&& 127) = 55 then (fun (z27 : Int32 × eb_St) => (z27.1, z27.2)) (m_X10_sets (eb_pI (eb_pI (eb_pI (eb_pI (eb_pI (eb_pI z7.2 0 37 z9.toInt32) 0 38 ((z9.toInt32 >>> (7 &&& 31)) &&& 31)) 0 41 ((z9.toInt32 >>> (12 &&& 31)) &&& 7)) 0 39 ((z9.toInt32 >>> (15 &&& 31)) &&& 31)) 0 40 ((z9.toInt32 >>> (20 &&& 31)) &&& 31)) 0 42 (eb_iushr z9.toInt32 25)) ((z9.toInt32 &&& (-4096)).toInt64)) else if (z9.toInt32 &&& 127) = 59 then (fun (z29 : Int32 × eb_St) => (z29.1, z29.2)) (m_X10_registersW (eb_pI (eb_pI (eb_pI (eb_pI (eb_pI (eb_pI z7.2 0 37 z9.toInt32) 0 38 ((z9.toInt32 >>> (7 &&& 31)) &&& 31)) 0 41 ((z9.toInt32 >>> (12 &&& 31)) &&& 7)) 0 39 ((z9.toInt32 >>> (15 &&& 31)) &&& 31)) 0 40 ((z9.toInt32 >>> (20 &&& 31)) &&& 31)) 0 42 (eb_iushr z9.toInt32 25))) else if (z9.toInt32 &&& 127) = 99 then (fun (z31 : Int32 × eb_St) => (z31.1, z31.2)) (m_X10_branches (eb_pI (eb_pI (eb_pI (eb_pI (eb_pI (eb_pI z7.2 0 37 z9.toInt32) 0 38 ((z9.toInt32 >>> (7 &&& 31)) &&& 31)) 0 41 ((z9.toInt32 >>> (12 &&& 31)) &&& 7)) 0 39 ((z9.toInt32 >>> (15 &&& 31)) &&& 31)) 0 40 ((z9.toInt32 >>> (20 &&& 31)) &&& 31)) 0 42 (eb_iushr z9.toInt32 25)) x2) else if (z9.toInt32 &&& 127) = 103 then (if ((z9.toInt32 >>> (12 &&& 31)) &&& 7) = 0 then (fun (z34 : Int64) => (fun (z35 : Int32 × eb_St) => (z35.1, z35.2)) (m_X10_jumps (eb_pI (eb_pI (eb_pI (eb_pI (eb_pI (eb_pI z7.2 0 37 z9.toInt32) 0 38 ((z9.toInt32 >>> (7 &&& 31)) &&& 31)) 0 41 ((z9.toInt32 >>> (12 &&& 31)) &&& 7)) 0 39 ((z9.toInt32 >>> (15 &&& 31)) &&& 31)) 0 40 ((z9.toInt32 >>> (20 &&& 31)) &&& 31)) 0 42 (eb_iushr z9.toInt32 25)) ((z34 + ((z9.toInt32 >>> (20 &&& 31)).toInt64)) &&& (-2)) (x2 + 4))) (m_X10_x (eb_pI (eb_pI (eb_pI (eb_pI (eb_pI (eb_pI z7.2 0 37 z9.toInt32) 0 38 ((z9.toInt32 >>> (7 &&& 31)) &&& 31)) 0 41 ((z9.toInt32 >>> (12 &&& 31)) &&& 7)) 0 39 ((z9.toInt32 >>> (15 &&& 31)) &&& 31)) 0 40 ((z9.toInt32 >>> (20 &&& 31)) &&& 31)) 0 42 (eb_iushr z9.toInt32 25)) ((z9.toInt32 >>> (15 &&& 31)) &&& 31)) else (fun (z36 : Int32 × eb_St) => (z36.1, z36.2)) (m_X10_illegal (eb_pI (eb_pI (eb_pI (eb_pI (eb_pI (eb_pI z7.2 0 37 z9.toInt32) 0 38 ((z9.toInt32 >>> (7 &&& 31)) &&& 31)) 0 41 ((z9.toInt32 >>> (12 &&& 31)) &&& 7)) 0 39 ((z9.toInt32 >>> (15 &&& 31)) &&& 31)) 0 40 ((z9.toInt32 >>> (20 &&& 31)) &&& 31)) 0 42 (eb_iushr z9.toInt32 25)))) else if (z9.toInt32 &&& 127) = 111 then (fun (z38 : Int64) => (fun (z39 : Int32 × eb_St) => (z39.1, z39.2)) (m_X10_jumps (eb_pI (eb_pI (eb_pI (eb_pI (eb_pI (eb_pI z7.2 0 37 z9.toInt32) 0 38 ((z9.toInt32 >>> (7 &&& 31)) &&& 31)) 0 41 ((z9.toInt32 >>> (12 &&& 31)) &&& 7)) 0 39 ((z9.toInt32 >>> (15 &&& 31)) &&& 31)) 0 40 ((z9.toInt32 >>> (20 &&& 31)) &&& 31)) 0 42 (eb_iushr z9.toInt32 25)) (x2 + z38) (x2 + 4))) (m_X10_jump (eb_pI (eb_pI (eb_pI (eb_pI (eb_pI (eb_pI z7.2 0 37 z9.toInt32) 0 38 ((z9.toInt32 >>> (7 &&& 31)) &&& 31)) 0 41 ((z9.toInt32 >>> (12 &&& 31)) &&& 7)) 0 39 ((z9.toInt32 >>> (15 &&& 31)) &&& 31)) 0 40 ((z9.toInt32 >>> (20 &&& 31)) &&& 31)) 0 42 (eb_iushr z9.toInt32 25))) else if (z9.toInt32 &&& 127) = 115 then (fun (z41 : Int32 × eb_St) => (z41.1, z41.2)) (m_X10_system (eb_pI (eb_pI (eb_pI (eb_pI (eb_pI (eb_pI z7.2 0 37 z9.toInt32) 0 38 ((z9.toInt32 >>> (7 &&& 31)) &&& 31)) 0 41 ((z9.toInt32 >>> (12 &&& 31)) &&& 7)) 0 39 ((z9.toInt32 >>> (15 &&& 31)) &&& 31)) 0 40 ((z9.toInt32 >>> (20 &&& 31)) &&& 31)) 0 42 (eb_iushr z9.toInt32 25)) x2) else (fun (z42 : Int32 × eb_St) => (z42.1, z42.2)) (m_X10_illegal (eb_pI (eb_pI (eb_pI (eb_pI (eb_pI (eb_pI z7.2 0 37 z9.toInt32) 0 38 ((z9.toInt32 >>> (7 &&& 31)) &&& 31)) 0 41 ((z9.toInt32 >>> (12 &&& 31)) &&& 7)) 0 39 ((z9.toInt32 >>> (15 &&& 31)) &&& 31)) 0 40 ((z9.toInt32 >>> (20 &&& 31)) &&& 31)) 0 42 (eb_iushr z9.toInt32 25))))) (m_X10_take z7.2 x2.toInt32 4))) (m_X10_lets σ x2.toInt32 4 4 (σ.1 0 4)))) (m_X10_isMemory x2 4) else (fun (z44 : Int32 × eb_St) => (z44.1, z44.2)) (m_X10_fault σ 0 x2))) (σ.2 3 z1.toNatClampNeg)) (m_X10_set σ)

def m_X10_step_98  (σ : eb_St) (v1 : Int32) : eb_St := (if v1 < 0 then σ else (if (σ.1 0 8) = v1 then (if (σ.2 0 31) = 0 then σ else (if ((σ.1 0 32).toInt64) = (σ.2 0 31) then (fun (z14 : eb_St) => z14) (m_X10_ends σ 2 1 0) else σ)) else σ))
def m_X10_step_68  (σ : eb_St) (v1 : Int32) : eb_St := (fun (z6 : Int32 × eb_St) => (fun (x7 : Int32) => (if x7 = (-1) then m_X10_step_98  (eb_pI z6.2 0 9 ((z6.2.1 0 9) + 1)) v1 else (fun (z9 : eb_St) => m_X10_step_98  z9 v1) (m_X10_fails (eb_pI z6.2 0 9 ((z6.2.1 0 9) + 1)) x7))) (z6.1)) (m_X10_instruction (eb_pJ σ 0 36 0))
def m_X10_step_39  (σ : eb_St)  : eb_St := (fun (x4 : Int32) => (if x4 < 0 then m_X10_step_68  σ x4 else m_X10_step_68  (eb_pI (eb_pI σ 13 x4.toNatClampNeg ((σ.1 13 x4.toNatClampNeg) + 1)) 0 32 ((σ.1 0 32) + 1)) x4)) (σ.1 0 8)
def m_X10_step (σ : eb_St)  : eb_St := (if (σ.1 0 14) = 0 then m_X10_step_39  σ else (if (σ.1 0 8) < 0 then m_X10_step_39  (eb_pI (eb_pI σ 0 14 0) 0 13 ((σ.1 0 13) + 1)) else (fun (z3 : eb_St) => m_X10_step_39  z3) (m_X10_ends (eb_pI σ 0 14 0) 2 1 0)))

def m_X10_run_16  : Nat → eb_St → Int32 → Int32 → Int32 × eb_St
  | 0, σ, _, _ => (0, σ)
  | n + 1, σ, v1, v2 => (if v1 ≤ v2 then (v2, σ) else (if (σ.1 0 5) = 0 then (fun (z5 : eb_St) => (fun (x6 : Int32) => m_X10_run_16  n z5 v1 x6) (v2 + 1)) (m_X10_step σ) else (v2, σ)))
def m_X10_run (σ : eb_St) (a0 : Int32) : Int32 × eb_St := (fun (z1 : Bool) => (if (eb_b z1) = 0 then ((-1), σ) else m_X10_run_16  ((a0.toInt - (0 : Int32).toInt).toNat + 1) σ a0 0)) (m_X10_in a0.toInt64 1 5000)

def m_X10_reset_146  : Nat → eb_St → Int32 → eb_St
  | 0, σ, _ => σ
  | n + 1, σ, v3 => (if (16 : Int32) ≤ v3 then eb_pI σ 0 35 0 else (fun (x10 : Int32) => m_X10_reset_146  n (eb_pJ (eb_pI σ 4 v3.toNatClampNeg 0) 5 v3.toNatClampNeg 0) x10) (v3 + 1))
def m_X10_reset_36  : Nat → eb_St → Int64 → Int32 → eb_St
  | 0, σ, _, _ => σ
  | n + 1, σ, v1, v3 => (if (224 : Int32) ≤ v3 then m_X10_reset_146  17 (eb_pJ (eb_pJ (eb_pJ (eb_pJ (eb_pJ (eb_pI (eb_pI (eb_pI (eb_pI (eb_pI (eb_pI (eb_pI (eb_pJ (eb_pI (eb_pI (eb_pI (eb_pJ σ 3 ((6 : Int32).toNatClampNeg) v1) 0 4 1) 0 5 0) 0 6 (-1)) 0 7 0) 0 8 (-1)) 0 9 0) 0 10 0) 0 11 0) 0 12 0) 0 13 0) 0 14 0) 0 15 0) 0 16 0) 0 17 0) 0 18 0) 0 19 0) 0 else (fun (x8 : Int32) => m_X10_reset_36  n (eb_pJ σ 2 v3.toNatClampNeg 0) v1 x8) (v3 + 1))
def m_X10_reset_2  : Nat → eb_St → Int64 → Int32 → eb_St
  | 0, σ, _, _ => σ
  | n + 1, σ, v1, v3 => (if (6 : Int32) ≤ v3 then m_X10_reset_36  225 σ v1 0 else (fun (z2 : Bool) => (if (eb_b z2) = 0 then (fun (x4 : Int32) => m_X10_reset_2  n (eb_pI σ 6 v3.toNatClampNeg 0) v1 x4) (v3 + 1) else (fun (z5 : eb_St) => (fun (x6 : Int32) => m_X10_reset_2  n (eb_pI z5 6 v3.toNatClampNeg 0) v1 x6) (v3 + 1)) (m_X10_clearMemory σ v3))) (m_X10_isLive σ v3))
def m_X10_reset (σ : eb_St) (a0 : Int64) : eb_St := m_X10_reset_2  7 σ a0 0
theorem J_X10_hostCalls {σ : eb_St}  {mm : eb_St} (hm : m_X10_hostCalls σ = mm) (hj_ : rJ σ) : rJ mm := by
  have hm : (fun (z1 : Int64) => (if z1 = 1 then (fun (z24 : Int64 × eb_St) => (fun (z25 : eb_St) => z25) (m_X10_give z24.2 10 z24.1)) (m_X10_create σ) else (if z1 < 2 then (fun (z4 : eb_St) => z4) (m_X10_give σ 10 (-1)) else (if (4 : Int64) < z1 then (fun (z6 : eb_St) => z6) (m_X10_give σ 10 (-1)) else (fun (z7 : Int64) => (fun (z8 : Bool) => (if (eb_b z8) = 0 then (fun (z10 : eb_St) => z10) (m_X10_give σ 10 (-1)) else (fun (z11 : Int64) => (fun (z12 : Bool) => (if (eb_b z12) = 0 then (fun (z14 : eb_St) => z14) (m_X10_give σ 10 (-1)) else (fun (z15 : Int64) => (fun (x16 : Int32) => (if z1 = 2 then (fun (z23 : eb_St) => z23) (m_X10_enter σ x16) else (if z1 = 3 then (fun (z21 : eb_St) => (fun (z22 : eb_St) => z22) (m_X10_give (eb_pI (eb_pI z21 6 x16.toNatClampNeg 0) 0 35 0) 10 0)) (m_X10_clearMemory σ x16) else (fun (z19 : eb_St) => (fun (z20 : eb_St) => z20) (m_X10_give z19 11 (z19.2 14 x16.toNatClampNeg))) (m_X10_give σ 10 ((σ.1 6 x16.toNatClampNeg).toInt64))))) (z15.toInt32)) (m_X10_x σ 10))) (m_X10_isLive σ z11.toInt32)) (m_X10_x σ 10))) (m_X10_in z7 0 5)) (m_X10_x σ 10))))) (m_X10_x σ 17) = mm := hm
  obtain ⟨z1, qz1⟩ : ∃ t : Int64, t = m_X10_x σ 17 := ⟨_, rfl⟩
  have hm : (if z1 = 1 then (fun (z24 : Int64 × eb_St) => (fun (z25 : eb_St) => z25) (m_X10_give z24.2 10 z24.1)) (m_X10_create σ) else (if z1 < 2 then (fun (z4 : eb_St) => z4) (m_X10_give σ 10 (-1)) else (if (4 : Int64) < z1 then (fun (z6 : eb_St) => z6) (m_X10_give σ 10 (-1)) else (fun (z7 : Int64) => (fun (z8 : Bool) => (if (eb_b z8) = 0 then (fun (z10 : eb_St) => z10) (m_X10_give σ 10 (-1)) else (fun (z11 : Int64) => (fun (z12 : Bool) => (if (eb_b z12) = 0 then (fun (z14 : eb_St) => z14) (m_X10_give σ 10 (-1)) else (fun (z15 : Int64) => (fun (x16 : Int32) => (if z1 = 2 then (fun (z23 : eb_St) => z23) (m_X10_enter σ x16) else (if z1 = 3 then (fun (z21 : eb_St) => (fun (z22 : eb_St) => z22) (m_X10_give (eb_pI (eb_pI z21 6 x16.toNatClampNeg 0) 0 35 0) 10 0)) (m_X10_clearMemory σ x16) else (fun (z19 : eb_St) => (fun (z20 : eb_St) => z20) (m_X10_give z19 11 (z19.2 14 x16.toNatClampNeg))) (m_X10_give σ 10 ((σ.1 6 x16.toNatClampNeg).toInt64))))) (z15.toInt32)) (m_X10_x σ 10))) (m_X10_isLive σ z11.toInt32)) (m_X10_x σ 10))) (m_X10_in z7 0 5)) (m_X10_x σ 10)))) = mm := by rw [qz1]; exact hm
  refine eb_emn (c := z1 = 1) (fun h2 => ?_) (fun h2 => ?_)
  · have hm := (if_neg h2).symm.trans hm
    refine eb_em (c := z1 < 2) (fun h3 => ?_) (fun h3 => ?_)
    · have hm := (if_pos h3).symm.trans hm
      obtain ⟨z4, qz4⟩ : ∃ t : eb_St, t = m_X10_give σ 10 (-1) := ⟨_, rfl⟩
      have hm : z4 = mm := by rw [qz4]; exact hm
      have jz4 : rJ z4 := J_X10_give qz4.symm hj_ (vp_in_iff.mpr ⟨by decide, by decide⟩)
      subst hm
      exact jz4
    · have hm := (if_neg h3).symm.trans hm
      refine eb_em (c := (4 : Int64) < z1) (fun h5 => ?_) (fun h5 => ?_)
      · have hm := (if_pos h5).symm.trans hm
        obtain ⟨z6, qz6⟩ : ∃ t : eb_St, t = m_X10_give σ 10 (-1) := ⟨_, rfl⟩
        have hm : z6 = mm := by rw [qz6]; exact hm
        have jz6 : rJ z6 := J_X10_give qz6.symm hj_ (vp_in_iff.mpr ⟨by decide, by decide⟩)
        subst hm
        exact jz6
      · have hm := (if_neg h5).symm.trans hm
        obtain ⟨z7, qz7⟩ : ∃ t : Int64, t = m_X10_x σ 10 := ⟨_, rfl⟩
        have hm : (fun (z8 : Bool) => (if (eb_b z8) = 0 then (fun (z10 : eb_St) => z10) (m_X10_give σ 10 (-1)) else (fun (z11 : Int64) => (fun (z12 : Bool) => (if (eb_b z12) = 0 then (fun (z14 : eb_St) => z14) (m_X10_give σ 10 (-1)) else (fun (z15 : Int64) => (fun (x16 : Int32) => (if z1 = 2 then (fun (z23 : eb_St) => z23) (m_X10_enter σ x16) else (if z1 = 3 then (fun (z21 : eb_St) => (fun (z22 : eb_St) => z22) (m_X10_give (eb_pI (eb_pI z21 6 x16.toNatClampNeg 0) 0 35 0) 10 0)) (m_X10_clearMemory σ x16) else (fun (z19 : eb_St) => (fun (z20 : eb_St) => z20) (m_X10_give z19 11 (z19.2 14 x16.toNatClampNeg))) (m_X10_give σ 10 ((σ.1 6 x16.toNatClampNeg).toInt64))))) (z15.toInt32)) (m_X10_x σ 10))) (m_X10_isLive σ z11.toInt32)) (m_X10_x σ 10))) (m_X10_in z7 0 5) = mm := by rw [qz7]; exact hm
        obtain ⟨z8, qz8⟩ : ∃ t : Bool, t = m_X10_in z7 0 5 := ⟨_, rfl⟩
        have hm : (if (eb_b z8) = 0 then (fun (z10 : eb_St) => z10) (m_X10_give σ 10 (-1)) else (fun (z11 : Int64) => (fun (z12 : Bool) => (if (eb_b z12) = 0 then (fun (z14 : eb_St) => z14) (m_X10_give σ 10 (-1)) else (fun (z15 : Int64) => (fun (x16 : Int32) => (if z1 = 2 then (fun (z23 : eb_St) => z23) (m_X10_enter σ x16) else (if z1 = 3 then (fun (z21 : eb_St) => (fun (z22 : eb_St) => z22) (m_X10_give (eb_pI (eb_pI z21 6 x16.toNatClampNeg 0) 0 35 0) 10 0)) (m_X10_clearMemory σ x16) else (fun (z19 : eb_St) => (fun (z20 : eb_St) => z20) (m_X10_give z19 11 (z19.2 14 x16.toNatClampNeg))) (m_X10_give σ 10 ((σ.1 6 x16.toNatClampNeg).toInt64))))) (z15.toInt32)) (m_X10_x σ 10))) (m_X10_isLive σ z11.toInt32)) (m_X10_x σ 10)) = mm := by rw [qz8]; exact hm
        refine eb_em (c := (eb_b z8) = 0) (fun h9 => ?_) (fun h9 => ?_)
        · have hm := (if_pos h9).symm.trans hm
          obtain ⟨z10, qz10⟩ : ∃ t : eb_St, t = m_X10_give σ 10 (-1) := ⟨_, rfl⟩
          have hm : z10 = mm := by rw [qz10]; exact hm
          have jz10 : rJ z10 := J_X10_give qz10.symm hj_ (vp_in_iff.mpr ⟨by decide, by decide⟩)
          subst hm
          exact jz10
        · have hm := (if_neg h9).symm.trans hm
          obtain ⟨z11, qz11⟩ : ∃ t : Int64, t = m_X10_x σ 10 := ⟨_, rfl⟩
          have hm : (fun (z12 : Bool) => (if (eb_b z12) = 0 then (fun (z14 : eb_St) => z14) (m_X10_give σ 10 (-1)) else (fun (z15 : Int64) => (fun (x16 : Int32) => (if z1 = 2 then (fun (z23 : eb_St) => z23) (m_X10_enter σ x16) else (if z1 = 3 then (fun (z21 : eb_St) => (fun (z22 : eb_St) => z22) (m_X10_give (eb_pI (eb_pI z21 6 x16.toNatClampNeg 0) 0 35 0) 10 0)) (m_X10_clearMemory σ x16) else (fun (z19 : eb_St) => (fun (z20 : eb_St) => z20) (m_X10_give z19 11 (z19.2 14 x16.toNatClampNeg))) (m_X10_give σ 10 ((σ.1 6 x16.toNatClampNeg).toInt64))))) (z15.toInt32)) (m_X10_x σ 10))) (m_X10_isLive σ z11.toInt32) = mm := by rw [qz11]; exact hm
          obtain ⟨z12, qz12⟩ : ∃ t : Bool, t = m_X10_isLive σ z11.toInt32 := ⟨_, rfl⟩
          have hm : (if (eb_b z12) = 0 then (fun (z14 : eb_St) => z14) (m_X10_give σ 10 (-1)) else (fun (z15 : Int64) => (fun (x16 : Int32) => (if z1 = 2 then (fun (z23 : eb_St) => z23) (m_X10_enter σ x16) else (if z1 = 3 then (fun (z21 : eb_St) => (fun (z22 : eb_St) => z22) (m_X10_give (eb_pI (eb_pI z21 6 x16.toNatClampNeg 0) 0 35 0) 10 0)) (m_X10_clearMemory σ x16) else (fun (z19 : eb_St) => (fun (z20 : eb_St) => z20) (m_X10_give z19 11 (z19.2 14 x16.toNatClampNeg))) (m_X10_give σ 10 ((σ.1 6 x16.toNatClampNeg).toInt64))))) (z15.toInt32)) (m_X10_x σ 10)) = mm := by rw [qz12]; exact hm
          refine eb_em (c := (eb_b z12) = 0) (fun h13 => ?_) (fun h13 => ?_)
          · have hm := (if_pos h13).symm.trans hm
            obtain ⟨z14, qz14⟩ : ∃ t : eb_St, t = m_X10_give σ 10 (-1) := ⟨_, rfl⟩
            have hm : z14 = mm := by rw [qz14]; exact hm
            have jz14 : rJ z14 := J_X10_give qz14.symm hj_ (vp_in_iff.mpr ⟨by decide, by decide⟩)
            subst hm
            exact jz14
          · have hm := (if_neg h13).symm.trans hm
            obtain ⟨z15, qz15⟩ : ∃ t : Int64, t = m_X10_x σ 10 := ⟨_, rfl⟩
            have hm : (fun (x16 : Int32) => (if z1 = 2 then (fun (z23 : eb_St) => z23) (m_X10_enter σ x16) else (if z1 = 3 then (fun (z21 : eb_St) => (fun (z22 : eb_St) => z22) (m_X10_give (eb_pI (eb_pI z21 6 x16.toNatClampNeg 0) 0 35 0) 10 0)) (m_X10_clearMemory σ x16) else (fun (z19 : eb_St) => (fun (z20 : eb_St) => z20) (m_X10_give z19 11 (z19.2 14 x16.toNatClampNeg))) (m_X10_give σ 10 ((σ.1 6 x16.toNatClampNeg).toInt64))))) (z15.toInt32) = mm := by rw [qz15]; exact hm
            obtain ⟨x16, ex16⟩ : ∃ z : Int32, z = z15.toInt32 := ⟨_, rfl⟩
            have hm : (if z1 = 2 then (fun (z23 : eb_St) => z23) (m_X10_enter σ x16) else (if z1 = 3 then (fun (z21 : eb_St) => (fun (z22 : eb_St) => z22) (m_X10_give (eb_pI (eb_pI z21 6 x16.toNatClampNeg 0) 0 35 0) 10 0)) (m_X10_clearMemory σ x16) else (fun (z19 : eb_St) => (fun (z20 : eb_St) => z20) (m_X10_give z19 11 (z19.2 14 x16.toNatClampNeg))) (m_X10_give σ 10 ((σ.1 6 x16.toNatClampNeg).toInt64)))) = mm := by rw [ex16]; exact hm
            refine eb_emn (c := z1 = 2) (fun h17 => ?_) (fun h17 => ?_)
            · have hm := (if_neg h17).symm.trans hm
              refine eb_emn (c := z1 = 3) (fun h18 => ?_) (fun h18 => ?_)
              · have hm := (if_neg h18).symm.trans hm
                obtain ⟨z19, qz19⟩ : ∃ t : eb_St, t = m_X10_give σ 10 ((σ.1 6 x16.toNatClampNeg).toInt64) := ⟨_, rfl⟩
                have hm : (fun (z20 : eb_St) => z20) (m_X10_give z19 11 (z19.2 14 x16.toNatClampNeg)) = mm := by rw [qz19]; exact hm
                have jz19 : rJ z19 := J_X10_give qz19.symm hj_ (vp_in_iff.mpr ⟨by decide, by decide⟩)
                obtain ⟨z20, qz20⟩ : ∃ t : eb_St, t = m_X10_give z19 11 (z19.2 14 x16.toNatClampNeg) := ⟨_, rfl⟩
                have hm : z20 = mm := by rw [qz20]; exact hm
                have jz20 : rJ z20 := J_X10_give qz20.symm jz19 (vp_in_iff.mpr ⟨by decide, by decide⟩)
                subst hm
                exact jz20
              · have hm := (if_pos h18).symm.trans hm
                obtain ⟨z21, qz21⟩ : ∃ t : eb_St, t = m_X10_clearMemory σ x16 := ⟨_, rfl⟩
                have hm : (fun (z22 : eb_St) => z22) (m_X10_give (eb_pI (eb_pI z21 6 x16.toNatClampNeg 0) 0 35 0) 10 0) = mm := by rw [qz21]; exact hm
                have jz21 : rJ z21 := J_X10_clearMemory qz21.symm hj_ (by rw [ex16, qz15, ← qz7]; exact l_in05 (show m_X10_in z7 0 5 = true from by rw [← qz8]; exact eb_b_n0 h9))
                obtain ⟨z22, qz22⟩ : ∃ t : eb_St, t = m_X10_give (eb_pI (eb_pI z21 6 x16.toNatClampNeg 0) 0 35 0) 10 0 := ⟨_, rfl⟩
                have hm : z22 = mm := by rw [qz22]; exact hm
                have jz22 : rJ z22 := J_X10_give qz22.symm (show rJ (eb_pI z21 6 x16.toNatClampNeg 0) from rJ_w jz21 (Or.inl rfl)) (vp_in_iff.mpr ⟨by decide, by decide⟩)
                subst hm
                exact jz22
            · have hm := (if_pos h17).symm.trans hm
              obtain ⟨z23, qz23⟩ : ∃ t : eb_St, t = m_X10_enter σ x16 := ⟨_, rfl⟩
              have hm : z23 = mm := by rw [qz23]; exact hm
              have jz23 : rJ z23 := J_X10_enter qz23.symm hj_ (by rw [ex16, qz15, ← qz7]; exact l_in05 (show m_X10_in z7 0 5 = true from by rw [← qz8]; exact eb_b_n0 h9)) (by rw [ex16, qz15, ← qz11]; exact l_X10_isLive (show m_X10_isLive _ _ = true from by rw [← qz12]; exact eb_b_n0 h13))
              subst hm
              exact jz23
  · have hm := (if_pos h2).symm.trans hm
    obtain ⟨z24, qz24⟩ : ∃ t : Int64 × eb_St, t = m_X10_create σ := ⟨_, rfl⟩
    have hm : (fun (z25 : eb_St) => z25) (m_X10_give z24.2 10 z24.1) = mm := by rw [qz24]; exact hm
    have jz24 : rJ z24.2 := J_X10_create qz24.symm hj_
    obtain ⟨z25, qz25⟩ : ∃ t : eb_St, t = m_X10_give z24.2 10 z24.1 := ⟨_, rfl⟩
    have hm : z25 = mm := by rw [qz25]; exact hm
    have jz25 : rJ z25 := J_X10_give qz25.symm jz24 (vp_in_iff.mpr ⟨by decide, by decide⟩)
    subst hm
    exact jz25
set_option maxHeartbeats 4000000 in
set_option maxRecDepth 100000 in
theorem c_X10_hostCalls (l : Launch) (D : va_G) (cy : Nat → ClassId) (ad : Nat → Nat) (σ : eb_St)  (hj_ : rJ σ) : eb_M l yX10_hostCalls (Cond.code yX10_hostCalls cX10_hostCalls 5 none :: wsL_law) 7 182 D 18 cy rL ad σ [.ref (ad 0)] (none) (m_X10_hostCalls σ) := by
  refine eb_start (own := RX10) (by decide) rfl rfl (Nat.le_of_ble_eq_true rfl) ?_
  intro p e s m args below meth c A ls X hw hl
  have hl : lv_has ls 5 [(0, .ref (ad 0))] := hl
  have hx := X.1.1
  have hb := X.1.2.1
  have hown := X.1.2.2.2.1
  have hts := X.1.2.2.2.2
  generalize hm : m_X10_hostCalls σ = mm
  have hm : (fun (z1 : Int64) => (if z1 = 1 then (fun (z24 : Int64 × eb_St) => (fun (z25 : eb_St) => z25) (m_X10_give z24.2 10 z24.1)) (m_X10_create σ) else (if z1 < 2 then (fun (z4 : eb_St) => z4) (m_X10_give σ 10 (-1)) else (if (4 : Int64) < z1 then (fun (z6 : eb_St) => z6) (m_X10_give σ 10 (-1)) else (fun (z7 : Int64) => (fun (z8 : Bool) => (if (eb_b z8) = 0 then (fun (z10 : eb_St) => z10) (m_X10_give σ 10 (-1)) else (fun (z11 : Int64) => (fun (z12 : Bool) => (if (eb_b z12) = 0 then (fun (z14 : eb_St) => z14) (m_X10_give σ 10 (-1)) else (fun (z15 : Int64) => (fun (x16 : Int32) => (if z1 = 2 then (fun (z23 : eb_St) => z23) (m_X10_enter σ x16) else (if z1 = 3 then (fun (z21 : eb_St) => (fun (z22 : eb_St) => z22) (m_X10_give (eb_pI (eb_pI z21 6 x16.toNatClampNeg 0) 0 35 0) 10 0)) (m_X10_clearMemory σ x16) else (fun (z19 : eb_St) => (fun (z20 : eb_St) => z20) (m_X10_give z19 11 (z19.2 14 x16.toNatClampNeg))) (m_X10_give σ 10 ((σ.1 6 x16.toNatClampNeg).toInt64))))) (z15.toInt32)) (m_X10_x σ 10))) (m_X10_isLive σ z11.toInt32)) (m_X10_x σ 10))) (m_X10_in z7 0 5)) (m_X10_x σ 10))))) (m_X10_x σ 17) = mm := hm
  refine lv_aload_n hx hb dX10_hostCalls_0 rfl (lv_at hl 0 rfl) ?_
  refine lv_bipush (v := 17) hx hb dX10_hostCalls_1 (by decide) ?_
  obtain ⟨z1, qz1⟩ : ∃ t : Int64, t = m_X10_x σ 17 := ⟨_, rfl⟩
  have hm : (if z1 = 1 then (fun (z24 : Int64 × eb_St) => (fun (z25 : eb_St) => z25) (m_X10_give z24.2 10 z24.1)) (m_X10_create σ) else (if z1 < 2 then (fun (z4 : eb_St) => z4) (m_X10_give σ 10 (-1)) else (if (4 : Int64) < z1 then (fun (z6 : eb_St) => z6) (m_X10_give σ 10 (-1)) else (fun (z7 : Int64) => (fun (z8 : Bool) => (if (eb_b z8) = 0 then (fun (z10 : eb_St) => z10) (m_X10_give σ 10 (-1)) else (fun (z11 : Int64) => (fun (z12 : Bool) => (if (eb_b z12) = 0 then (fun (z14 : eb_St) => z14) (m_X10_give σ 10 (-1)) else (fun (z15 : Int64) => (fun (x16 : Int32) => (if z1 = 2 then (fun (z23 : eb_St) => z23) (m_X10_enter σ x16) else (if z1 = 3 then (fun (z21 : eb_St) => (fun (z22 : eb_St) => z22) (m_X10_give (eb_pI (eb_pI z21 6 x16.toNatClampNeg 0) 0 35 0) 10 0)) (m_X10_clearMemory σ x16) else (fun (z19 : eb_St) => (fun (z20 : eb_St) => z20) (m_X10_give z19 11 (z19.2 14 x16.toNatClampNeg))) (m_X10_give σ 10 ((σ.1 6 x16.toNatClampNeg).toInt64))))) (z15.toInt32)) (m_X10_x σ 10))) (m_X10_isLive σ z11.toInt32)) (m_X10_x σ 10))) (m_X10_in z7 0 5)) (m_X10_x σ 10)))) = mm := by rw [qz1]; exact hm
  have hc : eb_M l yX10_x (Cond.code yX10_x cX10_x 2 (some .long) :: wsL_law) 1 20 D 18 cy rL ad σ [.ref (ad 0), .int 17] (some (.long z1)) σ := by rw [qz1]; exact c_X10_x l D cy ad σ 17 hj_ (vp_in_iff.mpr ⟨by decide, by decide⟩)
  refine eb_callV (n := 1) (as := [.int 17]) (rest := []) X hw hl.1 0 hc (by decide) ⟨rfl, rfl, rfl⟩ (eb_goodV wi_33_4 wi_33_5 wi_33_6 wi_1_5 wi_33_7) rfl (by decide +kernel) ⟨by decide, by decide⟩ rfl rfl (Nat.le_of_ble_eq_true rfl) dX10_hostCalls_3 ⟨by decide, by decide⟩ (st' := [.long z1]) rfl (fun H locs hw => ?_)
  refine lv_lstore_n (lv' := [(1, .long z1), (0, .ref (ad 0))]) hx hb dX10_hostCalls_6 rfl hl (by decide) rfl (fun ls hl => ?_)
  refine lv_lload_n hx hb dX10_hostCalls_7 rfl (lv_at hl 0 rfl) ?_
  refine lv_lconst (v := 1) hx hb dX10_hostCalls_8 (by decide) ?_
  refine eb_lif_ne (tgt := 24) hx hb dX10_hostCalls_9 dX10_hostCalls_10 (by decide) (fun h2 => ?_) (fun h2 => ?_)
  · have hm := (if_neg h2).symm.trans hm
    refine lv_lload_n hx hb dX10_hostCalls_24 rfl (lv_at hl 0 rfl) ?_
    refine lv_ldc2 hx hb hown (hts _ (List.mem_cons_of_mem _ wi_31_12)) dX10_hostCalls_25 ?_
    refine eb_lif_lt (tgt := 74) hx hb dX10_hostCalls_28 dX10_hostCalls_29 (by decide) (fun h3 => ?_) (fun h3 => ?_)
    · have hm := (if_pos h3).symm.trans hm
      refine lv_iconst (v := 0) hx hb dX10_hostCalls_74 (by decide) ?_
      refine lv_istore_n (lv' := [(3, .int 0), (1, .long z1), (0, .ref (ad 0))]) hx hb dX10_hostCalls_75 rfl hl (by decide) rfl (fun ls hl => ?_)
      refine lv_iload_n hx hb dX10_hostCalls_76 rfl (lv_at hl 0 rfl) ?_
      refine lv_if_ne (tgt := 90) hx hb dX10_hostCalls_77 (by decide) (fun hq => absurd (by decide) hq) (fun _ => ?_)
      refine lv_aload_n hx hb dX10_hostCalls_80 rfl (lv_at hl 2 rfl) ?_
      refine lv_bipush (v := 10) hx hb dX10_hostCalls_81 (by decide) ?_
      refine lv_ldc2 hx hb hown (hts _ (List.mem_cons_of_mem _ wi_34_17)) dX10_hostCalls_83 ?_
      obtain ⟨z4, qz4⟩ : ∃ t : eb_St, t = m_X10_give σ 10 (-1) := ⟨_, rfl⟩
      have hm : z4 = mm := by rw [qz4]; exact hm
      have jz4 : rJ z4 := J_X10_give qz4.symm hj_ (vp_in_iff.mpr ⟨by decide, by decide⟩)
      have hc : eb_M l yX10_give (Cond.code yX10_give cX10_give 4 none :: wsL_law) 1 20 D 18 cy rL ad σ [.ref (ad 0), .int 10, .long (-1)] (none) z4 := by rw [qz4]; exact c_X10_give l D cy ad σ 10 (-1) hj_ (vp_in_iff.mpr ⟨by decide, by decide⟩)
      refine eb_callV (n := 2) (as := [.int 10, .long (-1)]) (rest := []) X hw hl.1 0 hc (by decide) ⟨rfl, rfl, rfl⟩ (eb_goodV wi_32_6 wi_32_7 wi_32_8 wi_1_5 wi_32_9) rfl (by decide +kernel) ⟨by decide, by decide⟩ rfl rfl (Nat.le_of_ble_eq_true rfl) dX10_hostCalls_86 ⟨by decide, by decide⟩ (st' := []) rfl (fun H locs hw => ?_)
      subst hm
      exact eb_vret X hw rfl rfl dX10_hostCalls_89
    · have hm := (if_neg h3).symm.trans hm
      refine lv_lload_n hx hb dX10_hostCalls_32 rfl (lv_at hl 0 rfl) ?_
      refine lv_ldc2 hx hb hown (hts _ (List.mem_cons_of_mem _ wi_30_14)) dX10_hostCalls_33 ?_
      refine eb_lif_gt (tgt := 74) hx hb dX10_hostCalls_36 dX10_hostCalls_37 (by decide) (fun h5 => ?_) (fun h5 => ?_)
      · have hm := (if_pos h5).symm.trans hm
        refine lv_iconst (v := 0) hx hb dX10_hostCalls_74 (by decide) ?_
        refine lv_istore_n (lv' := [(3, .int 0), (1, .long z1), (0, .ref (ad 0))]) hx hb dX10_hostCalls_75 rfl hl (by decide) rfl (fun ls hl => ?_)
        refine lv_iload_n hx hb dX10_hostCalls_76 rfl (lv_at hl 0 rfl) ?_
        refine lv_if_ne (tgt := 90) hx hb dX10_hostCalls_77 (by decide) (fun hq => absurd (by decide) hq) (fun _ => ?_)
        refine lv_aload_n hx hb dX10_hostCalls_80 rfl (lv_at hl 2 rfl) ?_
        refine lv_bipush (v := 10) hx hb dX10_hostCalls_81 (by decide) ?_
        refine lv_ldc2 hx hb hown (hts _ (List.mem_cons_of_mem _ wi_34_17)) dX10_hostCalls_83 ?_
        obtain ⟨z6, qz6⟩ : ∃ t : eb_St, t = m_X10_give σ 10 (-1) := ⟨_, rfl⟩
        have hm : z6 = mm := by rw [qz6]; exact hm
        have jz6 : rJ z6 := J_X10_give qz6.symm hj_ (vp_in_iff.mpr ⟨by decide, by decide⟩)
        have hc : eb_M l yX10_give (Cond.code yX10_give cX10_give 4 none :: wsL_law) 1 20 D 18 cy rL ad σ [.ref (ad 0), .int 10, .long (-1)] (none) z6 := by rw [qz6]; exact c_X10_give l D cy ad σ 10 (-1) hj_ (vp_in_iff.mpr ⟨by decide, by decide⟩)
        refine eb_callV (n := 2) (as := [.int 10, .long (-1)]) (rest := []) X hw hl.1 0 hc (by decide) ⟨rfl, rfl, rfl⟩ (eb_goodV wi_32_6 wi_32_7 wi_32_8 wi_1_5 wi_32_9) rfl (by decide +kernel) ⟨by decide, by decide⟩ rfl rfl (Nat.le_of_ble_eq_true rfl) dX10_hostCalls_86 ⟨by decide, by decide⟩ (st' := []) rfl (fun H locs hw => ?_)
        subst hm
        exact eb_vret X hw rfl rfl dX10_hostCalls_89
      · have hm := (if_neg h5).symm.trans hm
        refine lv_aload_n hx hb dX10_hostCalls_40 rfl (lv_at hl 1 rfl) ?_
        refine lv_bipush (v := 10) hx hb dX10_hostCalls_41 (by decide) ?_
        obtain ⟨z7, qz7⟩ : ∃ t : Int64, t = m_X10_x σ 10 := ⟨_, rfl⟩
        have hm : (fun (z8 : Bool) => (if (eb_b z8) = 0 then (fun (z10 : eb_St) => z10) (m_X10_give σ 10 (-1)) else (fun (z11 : Int64) => (fun (z12 : Bool) => (if (eb_b z12) = 0 then (fun (z14 : eb_St) => z14) (m_X10_give σ 10 (-1)) else (fun (z15 : Int64) => (fun (x16 : Int32) => (if z1 = 2 then (fun (z23 : eb_St) => z23) (m_X10_enter σ x16) else (if z1 = 3 then (fun (z21 : eb_St) => (fun (z22 : eb_St) => z22) (m_X10_give (eb_pI (eb_pI z21 6 x16.toNatClampNeg 0) 0 35 0) 10 0)) (m_X10_clearMemory σ x16) else (fun (z19 : eb_St) => (fun (z20 : eb_St) => z20) (m_X10_give z19 11 (z19.2 14 x16.toNatClampNeg))) (m_X10_give σ 10 ((σ.1 6 x16.toNatClampNeg).toInt64))))) (z15.toInt32)) (m_X10_x σ 10))) (m_X10_isLive σ z11.toInt32)) (m_X10_x σ 10))) (m_X10_in z7 0 5) = mm := by rw [qz7]; exact hm
        have hc : eb_M l yX10_x (Cond.code yX10_x cX10_x 2 (some .long) :: wsL_law) 1 20 D 18 cy rL ad σ [.ref (ad 0), .int 10] (some (.long z7)) σ := by rw [qz7]; exact c_X10_x l D cy ad σ 10 hj_ (vp_in_iff.mpr ⟨by decide, by decide⟩)
        refine eb_callV (n := 1) (as := [.int 10]) (rest := []) X hw hl.1 0 hc (by decide) ⟨rfl, rfl, rfl⟩ (eb_goodV wi_33_4 wi_33_5 wi_33_6 wi_1_5 wi_33_7) rfl (by decide +kernel) ⟨by decide, by decide⟩ rfl rfl (Nat.le_of_ble_eq_true rfl) dX10_hostCalls_43 ⟨by decide, by decide⟩ (st' := [.long z7]) rfl (fun H locs hw => ?_)
        refine lv_lconst (v := 0) hx hb dX10_hostCalls_46 (by decide) ?_
        refine lv_ldc2 hx hb hown (hts _ (List.mem_cons_of_mem _ wi_37_2)) dX10_hostCalls_47 ?_
        obtain ⟨z8, qz8⟩ : ∃ t : Bool, t = m_X10_in z7 0 5 := ⟨_, rfl⟩
        have hm : (if (eb_b z8) = 0 then (fun (z10 : eb_St) => z10) (m_X10_give σ 10 (-1)) else (fun (z11 : Int64) => (fun (z12 : Bool) => (if (eb_b z12) = 0 then (fun (z14 : eb_St) => z14) (m_X10_give σ 10 (-1)) else (fun (z15 : Int64) => (fun (x16 : Int32) => (if z1 = 2 then (fun (z23 : eb_St) => z23) (m_X10_enter σ x16) else (if z1 = 3 then (fun (z21 : eb_St) => (fun (z22 : eb_St) => z22) (m_X10_give (eb_pI (eb_pI z21 6 x16.toNatClampNeg 0) 0 35 0) 10 0)) (m_X10_clearMemory σ x16) else (fun (z19 : eb_St) => (fun (z20 : eb_St) => z20) (m_X10_give z19 11 (z19.2 14 x16.toNatClampNeg))) (m_X10_give σ 10 ((σ.1 6 x16.toNatClampNeg).toInt64))))) (z15.toInt32)) (m_X10_x σ 10))) (m_X10_isLive σ z11.toInt32)) (m_X10_x σ 10)) = mm := by rw [qz8]; exact hm
        have hc : eb_M l yX10_in (Cond.code yX10_in cX10_in 6 (some .boolean) :: wsL_law) 0 0 D 18 cy rL ad σ [.long z7, .long 0, .long 5] (some (.int (eb_b z8))) σ := by rw [qz8]; exact c_X10_in l D cy ad σ z7 0 5
        refine eb_callS (n := 3) X hw hl.1 (rest := []) hc (eb_goodS wi_29_9 wi_29_10 wi_1_5 wi_29_11) rfl (by decide +kernel) ⟨by decide, by decide⟩ rfl rfl (Nat.le_of_ble_eq_true rfl) dX10_hostCalls_50 ⟨by decide, by decide⟩ (st' := [.int (eb_b z8)]) rfl (fun H locs hw => ?_)
        refine lv_if_eq (tgt := 74) hx hb dX10_hostCalls_53 (by decide) (fun h9 => ?_) (fun h9 => ?_)
        · have hm := (if_pos h9).symm.trans hm
          refine lv_iconst (v := 0) hx hb dX10_hostCalls_74 (by decide) ?_
          refine lv_istore_n (lv' := [(3, .int 0), (1, .long z1), (0, .ref (ad 0))]) hx hb dX10_hostCalls_75 rfl hl (by decide) rfl (fun ls hl => ?_)
          refine lv_iload_n hx hb dX10_hostCalls_76 rfl (lv_at hl 0 rfl) ?_
          refine lv_if_ne (tgt := 90) hx hb dX10_hostCalls_77 (by decide) (fun hq => absurd (by decide) hq) (fun _ => ?_)
          refine lv_aload_n hx hb dX10_hostCalls_80 rfl (lv_at hl 2 rfl) ?_
          refine lv_bipush (v := 10) hx hb dX10_hostCalls_81 (by decide) ?_
          refine lv_ldc2 hx hb hown (hts _ (List.mem_cons_of_mem _ wi_34_17)) dX10_hostCalls_83 ?_
          obtain ⟨z10, qz10⟩ : ∃ t : eb_St, t = m_X10_give σ 10 (-1) := ⟨_, rfl⟩
          have hm : z10 = mm := by rw [qz10]; exact hm
          have jz10 : rJ z10 := J_X10_give qz10.symm hj_ (vp_in_iff.mpr ⟨by decide, by decide⟩)
          have hc : eb_M l yX10_give (Cond.code yX10_give cX10_give 4 none :: wsL_law) 1 20 D 18 cy rL ad σ [.ref (ad 0), .int 10, .long (-1)] (none) z10 := by rw [qz10]; exact c_X10_give l D cy ad σ 10 (-1) hj_ (vp_in_iff.mpr ⟨by decide, by decide⟩)
          refine eb_callV (n := 2) (as := [.int 10, .long (-1)]) (rest := []) X hw hl.1 0 hc (by decide) ⟨rfl, rfl, rfl⟩ (eb_goodV wi_32_6 wi_32_7 wi_32_8 wi_1_5 wi_32_9) rfl (by decide +kernel) ⟨by decide, by decide⟩ rfl rfl (Nat.le_of_ble_eq_true rfl) dX10_hostCalls_86 ⟨by decide, by decide⟩ (st' := []) rfl (fun H locs hw => ?_)
          subst hm
          exact eb_vret X hw rfl rfl dX10_hostCalls_89
        · have hm := (if_neg h9).symm.trans hm
          refine lv_aload_n hx hb dX10_hostCalls_56 rfl (lv_at hl 1 rfl) ?_
          refine lv_aload_n hx hb dX10_hostCalls_57 rfl (lv_at hl 1 rfl) ?_
          refine lv_bipush (v := 10) hx hb dX10_hostCalls_58 (by decide) ?_
          obtain ⟨z11, qz11⟩ : ∃ t : Int64, t = m_X10_x σ 10 := ⟨_, rfl⟩
          have hm : (fun (z12 : Bool) => (if (eb_b z12) = 0 then (fun (z14 : eb_St) => z14) (m_X10_give σ 10 (-1)) else (fun (z15 : Int64) => (fun (x16 : Int32) => (if z1 = 2 then (fun (z23 : eb_St) => z23) (m_X10_enter σ x16) else (if z1 = 3 then (fun (z21 : eb_St) => (fun (z22 : eb_St) => z22) (m_X10_give (eb_pI (eb_pI z21 6 x16.toNatClampNeg 0) 0 35 0) 10 0)) (m_X10_clearMemory σ x16) else (fun (z19 : eb_St) => (fun (z20 : eb_St) => z20) (m_X10_give z19 11 (z19.2 14 x16.toNatClampNeg))) (m_X10_give σ 10 ((σ.1 6 x16.toNatClampNeg).toInt64))))) (z15.toInt32)) (m_X10_x σ 10))) (m_X10_isLive σ z11.toInt32) = mm := by rw [qz11]; exact hm
          have hc : eb_M l yX10_x (Cond.code yX10_x cX10_x 2 (some .long) :: wsL_law) 1 20 D 18 cy rL ad σ [.ref (ad 0), .int 10] (some (.long z11)) σ := by rw [qz11]; exact c_X10_x l D cy ad σ 10 hj_ (vp_in_iff.mpr ⟨by decide, by decide⟩)
          refine eb_callV (n := 1) (as := [.int 10]) (rest := [.ref (ad 0)]) X hw hl.1 0 hc (by decide) ⟨rfl, rfl, rfl⟩ (eb_goodV wi_33_4 wi_33_5 wi_33_6 wi_1_5 wi_33_7) rfl (by decide +kernel) ⟨by decide, by decide⟩ rfl rfl (Nat.le_of_ble_eq_true rfl) dX10_hostCalls_60 ⟨by decide, by decide⟩ (st' := [.long z11, .ref (ad 0)]) rfl (fun H locs hw => ?_)
          refine lv_l2i (v := z11.toInt32) hx hb dX10_hostCalls_63 rfl ?_
          obtain ⟨z12, qz12⟩ : ∃ t : Bool, t = m_X10_isLive σ z11.toInt32 := ⟨_, rfl⟩
          have hm : (if (eb_b z12) = 0 then (fun (z14 : eb_St) => z14) (m_X10_give σ 10 (-1)) else (fun (z15 : Int64) => (fun (x16 : Int32) => (if z1 = 2 then (fun (z23 : eb_St) => z23) (m_X10_enter σ x16) else (if z1 = 3 then (fun (z21 : eb_St) => (fun (z22 : eb_St) => z22) (m_X10_give (eb_pI (eb_pI z21 6 x16.toNatClampNeg 0) 0 35 0) 10 0)) (m_X10_clearMemory σ x16) else (fun (z19 : eb_St) => (fun (z20 : eb_St) => z20) (m_X10_give z19 11 (z19.2 14 x16.toNatClampNeg))) (m_X10_give σ 10 ((σ.1 6 x16.toNatClampNeg).toInt64))))) (z15.toInt32)) (m_X10_x σ 10)) = mm := by rw [qz12]; exact hm
          have hc : eb_M l yX10_isLive (Cond.code yX10_isLive cX10_isLive 2 (some .boolean) :: wsL_law) 0 0 D 18 cy rL ad σ [.ref (ad 0), .int z11.toInt32] (some (.int (eb_b z12))) σ := by rw [qz12]; exact c_X10_isLive l D cy ad σ z11.toInt32 (by rw [qz11, ← qz7]; exact l_in05 (show m_X10_in z7 0 5 = true from by rw [← qz8]; exact eb_b_n0 h9))
          refine eb_callV (n := 1) (as := [.int z11.toInt32]) (rest := []) X hw hl.1 0 hc (by decide) ⟨rfl, rfl, rfl⟩ (eb_goodV wi_9_22 wi_9_23 wi_10_0 wi_1_5 wi_10_1) rfl (by decide +kernel) ⟨by decide, by decide⟩ rfl rfl (Nat.le_of_ble_eq_true rfl) dX10_hostCalls_64 ⟨by decide, by decide⟩ (st' := [.int (eb_b z12)]) rfl (fun H locs hw => ?_)
          refine lv_if_eq (tgt := 74) hx hb dX10_hostCalls_67 (by decide) (fun h13 => ?_) (fun h13 => ?_)
          · have hm := (if_pos h13).symm.trans hm
            refine lv_iconst (v := 0) hx hb dX10_hostCalls_74 (by decide) ?_
            refine lv_istore_n (lv' := [(3, .int 0), (1, .long z1), (0, .ref (ad 0))]) hx hb dX10_hostCalls_75 rfl hl (by decide) rfl (fun ls hl => ?_)
            refine lv_iload_n hx hb dX10_hostCalls_76 rfl (lv_at hl 0 rfl) ?_
            refine lv_if_ne (tgt := 90) hx hb dX10_hostCalls_77 (by decide) (fun hq => absurd (by decide) hq) (fun _ => ?_)
            refine lv_aload_n hx hb dX10_hostCalls_80 rfl (lv_at hl 2 rfl) ?_
            refine lv_bipush (v := 10) hx hb dX10_hostCalls_81 (by decide) ?_
            refine lv_ldc2 hx hb hown (hts _ (List.mem_cons_of_mem _ wi_34_17)) dX10_hostCalls_83 ?_
            obtain ⟨z14, qz14⟩ : ∃ t : eb_St, t = m_X10_give σ 10 (-1) := ⟨_, rfl⟩
            have hm : z14 = mm := by rw [qz14]; exact hm
            have jz14 : rJ z14 := J_X10_give qz14.symm hj_ (vp_in_iff.mpr ⟨by decide, by decide⟩)
            have hc : eb_M l yX10_give (Cond.code yX10_give cX10_give 4 none :: wsL_law) 1 20 D 18 cy rL ad σ [.ref (ad 0), .int 10, .long (-1)] (none) z14 := by rw [qz14]; exact c_X10_give l D cy ad σ 10 (-1) hj_ (vp_in_iff.mpr ⟨by decide, by decide⟩)
            refine eb_callV (n := 2) (as := [.int 10, .long (-1)]) (rest := []) X hw hl.1 0 hc (by decide) ⟨rfl, rfl, rfl⟩ (eb_goodV wi_32_6 wi_32_7 wi_32_8 wi_1_5 wi_32_9) rfl (by decide +kernel) ⟨by decide, by decide⟩ rfl rfl (Nat.le_of_ble_eq_true rfl) dX10_hostCalls_86 ⟨by decide, by decide⟩ (st' := []) rfl (fun H locs hw => ?_)
            subst hm
            exact eb_vret X hw rfl rfl dX10_hostCalls_89
          · have hm := (if_neg h13).symm.trans hm
            refine lv_iconst (v := 1) hx hb dX10_hostCalls_70 (by decide) ?_
            refine lv_goto (tgt := 75) hx hb dX10_hostCalls_71 (by decide) ?_
            refine lv_istore_n (lv' := [(3, .int 1), (1, .long z1), (0, .ref (ad 0))]) hx hb dX10_hostCalls_75 rfl hl (by decide) rfl (fun ls hl => ?_)
            refine lv_iload_n hx hb dX10_hostCalls_76 rfl (lv_at hl 0 rfl) ?_
            refine lv_if_ne (tgt := 90) hx hb dX10_hostCalls_77 (by decide) (fun _ => ?_) (fun hq => absurd hq (by decide))
            refine lv_aload_n hx hb dX10_hostCalls_90 rfl (lv_at hl 2 rfl) ?_
            refine lv_bipush (v := 10) hx hb dX10_hostCalls_91 (by decide) ?_
            obtain ⟨z15, qz15⟩ : ∃ t : Int64, t = m_X10_x σ 10 := ⟨_, rfl⟩
            have hm : (fun (x16 : Int32) => (if z1 = 2 then (fun (z23 : eb_St) => z23) (m_X10_enter σ x16) else (if z1 = 3 then (fun (z21 : eb_St) => (fun (z22 : eb_St) => z22) (m_X10_give (eb_pI (eb_pI z21 6 x16.toNatClampNeg 0) 0 35 0) 10 0)) (m_X10_clearMemory σ x16) else (fun (z19 : eb_St) => (fun (z20 : eb_St) => z20) (m_X10_give z19 11 (z19.2 14 x16.toNatClampNeg))) (m_X10_give σ 10 ((σ.1 6 x16.toNatClampNeg).toInt64))))) (z15.toInt32) = mm := by rw [qz15]; exact hm
            have hc : eb_M l yX10_x (Cond.code yX10_x cX10_x 2 (some .long) :: wsL_law) 1 20 D 18 cy rL ad σ [.ref (ad 0), .int 10] (some (.long z15)) σ := by rw [qz15]; exact c_X10_x l D cy ad σ 10 hj_ (vp_in_iff.mpr ⟨by decide, by decide⟩)
            refine eb_callV (n := 1) (as := [.int 10]) (rest := []) X hw hl.1 0 hc (by decide) ⟨rfl, rfl, rfl⟩ (eb_goodV wi_33_4 wi_33_5 wi_33_6 wi_1_5 wi_33_7) rfl (by decide +kernel) ⟨by decide, by decide⟩ rfl rfl (Nat.le_of_ble_eq_true rfl) dX10_hostCalls_93 ⟨by decide, by decide⟩ (st' := [.long z15]) rfl (fun H locs hw => ?_)
            refine lv_l2i (v := z15.toInt32) hx hb dX10_hostCalls_96 rfl ?_
            refine lv_topi (fun x16 ex16 => ?_)
            have hm : (if z1 = 2 then (fun (z23 : eb_St) => z23) (m_X10_enter σ x16) else (if z1 = 3 then (fun (z21 : eb_St) => (fun (z22 : eb_St) => z22) (m_X10_give (eb_pI (eb_pI z21 6 x16.toNatClampNeg 0) 0 35 0) 10 0)) (m_X10_clearMemory σ x16) else (fun (z19 : eb_St) => (fun (z20 : eb_St) => z20) (m_X10_give z19 11 (z19.2 14 x16.toNatClampNeg))) (m_X10_give σ 10 ((σ.1 6 x16.toNatClampNeg).toInt64)))) = mm := by rw [ex16]; exact hm
            refine lv_istore (lv' := [(4, .int x16), (3, .int 1), (1, .long z1), (0, .ref (ad 0))]) hx hb dX10_hostCalls_97 hl (by decide) rfl (fun ls hl => ?_)
            refine lv_lload_n hx hb dX10_hostCalls_99 rfl (lv_at hl 2 rfl) ?_
            refine lv_ldc2 hx hb hown (hts _ (List.mem_cons_of_mem _ wi_31_12)) dX10_hostCalls_100 ?_
            refine eb_lif_ne (tgt := 116) hx hb dX10_hostCalls_103 dX10_hostCalls_104 (by decide) (fun h17 => ?_) (fun h17 => ?_)
            · have hm := (if_neg h17).symm.trans hm
              refine lv_lload_n hx hb dX10_hostCalls_116 rfl (lv_at hl 2 rfl) ?_
              refine lv_ldc2 hx hb hown (hts _ (List.mem_cons_of_mem _ wi_30_7)) dX10_hostCalls_117 ?_
              refine eb_lif_ne (tgt := 153) hx hb dX10_hostCalls_120 dX10_hostCalls_121 (by decide) (fun h18 => ?_) (fun h18 => ?_)
              · have hm := (if_neg h18).symm.trans hm
                refine lv_aload_n hx hb dX10_hostCalls_153 rfl (lv_at hl 3 rfl) ?_
                refine lv_bipush (v := 10) hx hb dX10_hostCalls_154 (by decide) ?_
                refine lv_aload_n hx hb dX10_hostCalls_156 rfl (lv_at hl 3 rfl) ?_
                refine eb_get (T := TX10) X hw 0 22 (by decide) ⟨rfl, rfl, rfl⟩ (by decide) (fun _ h => List.mem_cons_of_mem _ (inlX10 _ h)) (List.mem_cons_of_mem _ wi_5_16) (v := .ref (ad 6)) rfl dX10_hostCalls_157 ?_
                refine lv_iload hx hb dX10_hostCalls_160 (lv_at hl 0 rfl) ?_
                refine eb_iald (n := 6) X hw 6 (by decide) rfl rfl (by rw [ex16, qz15, ← qz7]; exact l_in05 (show m_X10_in z7 0 5 = true from by rw [← qz8]; exact eb_b_n0 h9)) dX10_hostCalls_162 ?_
                refine lv_i2l (v := (σ.1 6 x16.toNatClampNeg).toInt64) hx hb dX10_hostCalls_163 rfl ?_
                obtain ⟨z19, qz19⟩ : ∃ t : eb_St, t = m_X10_give σ 10 ((σ.1 6 x16.toNatClampNeg).toInt64) := ⟨_, rfl⟩
                have hm : (fun (z20 : eb_St) => z20) (m_X10_give z19 11 (z19.2 14 x16.toNatClampNeg)) = mm := by rw [qz19]; exact hm
                have jz19 : rJ z19 := J_X10_give qz19.symm hj_ (vp_in_iff.mpr ⟨by decide, by decide⟩)
                have hc : eb_M l yX10_give (Cond.code yX10_give cX10_give 4 none :: wsL_law) 1 20 D 18 cy rL ad σ [.ref (ad 0), .int 10, .long ((σ.1 6 x16.toNatClampNeg).toInt64)] (none) z19 := by rw [qz19]; exact c_X10_give l D cy ad σ 10 ((σ.1 6 x16.toNatClampNeg).toInt64) hj_ (vp_in_iff.mpr ⟨by decide, by decide⟩)
                refine eb_callV (n := 2) (as := [.int 10, .long ((σ.1 6 x16.toNatClampNeg).toInt64)]) (rest := []) X hw hl.1 0 hc (by decide) ⟨rfl, rfl, rfl⟩ (eb_goodV wi_32_6 wi_32_7 wi_32_8 wi_1_5 wi_32_9) rfl (by decide +kernel) ⟨by decide, by decide⟩ rfl rfl (Nat.le_of_ble_eq_true rfl) dX10_hostCalls_164 ⟨by decide, by decide⟩ (st' := []) rfl (fun H locs hw => ?_)
                refine lv_aload_n hx hb dX10_hostCalls_167 rfl (lv_at hl 3 rfl) ?_
                refine lv_bipush (v := 11) hx hb dX10_hostCalls_168 (by decide) ?_
                refine lv_aload_n hx hb dX10_hostCalls_170 rfl (lv_at hl 3 rfl) ?_
                refine eb_get (T := TX10) X hw 0 30 (by decide) ⟨rfl, rfl, rfl⟩ (by decide) (fun _ h => List.mem_cons_of_mem _ (inlX10 _ h)) (List.mem_cons_of_mem _ wi_6_0) (v := .ref (ad 14)) rfl dX10_hostCalls_171 ?_
                refine lv_iload hx hb dX10_hostCalls_174 (lv_at hl 0 rfl) ?_
                refine eb_lald (n := 6) X hw 14 (by decide) rfl rfl (by rw [ex16, qz15, ← qz7]; exact l_in05 (show m_X10_in z7 0 5 = true from by rw [← qz8]; exact eb_b_n0 h9)) dX10_hostCalls_176 ?_
                obtain ⟨z20, qz20⟩ : ∃ t : eb_St, t = m_X10_give z19 11 (z19.2 14 x16.toNatClampNeg) := ⟨_, rfl⟩
                have hm : z20 = mm := by rw [qz20]; exact hm
                have jz20 : rJ z20 := J_X10_give qz20.symm jz19 (vp_in_iff.mpr ⟨by decide, by decide⟩)
                have hc : eb_M l yX10_give (Cond.code yX10_give cX10_give 4 none :: wsL_law) 1 20 D 18 cy rL ad z19 [.ref (ad 0), .int 11, .long (z19.2 14 x16.toNatClampNeg)] (none) z20 := by rw [qz20]; exact c_X10_give l D cy ad z19 11 (z19.2 14 x16.toNatClampNeg) jz19 (vp_in_iff.mpr ⟨by decide, by decide⟩)
                refine eb_callV (n := 2) (as := [.int 11, .long (z19.2 14 x16.toNatClampNeg)]) (rest := []) X hw hl.1 0 hc (by decide) ⟨rfl, rfl, rfl⟩ (eb_goodV wi_32_6 wi_32_7 wi_32_8 wi_1_5 wi_32_9) rfl (by decide +kernel) ⟨by decide, by decide⟩ rfl rfl (Nat.le_of_ble_eq_true rfl) dX10_hostCalls_177 ⟨by decide, by decide⟩ (st' := []) rfl (fun H locs hw => ?_)
                subst hm
                exact eb_vret X hw rfl rfl dX10_hostCalls_180
              · have hm := (if_pos h18).symm.trans hm
                refine lv_aload_n hx hb dX10_hostCalls_124 rfl (lv_at hl 3 rfl) ?_
                refine lv_iload hx hb dX10_hostCalls_125 (lv_at hl 0 rfl) ?_
                obtain ⟨z21, qz21⟩ : ∃ t : eb_St, t = m_X10_clearMemory σ x16 := ⟨_, rfl⟩
                have hm : (fun (z22 : eb_St) => z22) (m_X10_give (eb_pI (eb_pI z21 6 x16.toNatClampNeg 0) 0 35 0) 10 0) = mm := by rw [qz21]; exact hm
                have jz21 : rJ z21 := J_X10_clearMemory qz21.symm hj_ (by rw [ex16, qz15, ← qz7]; exact l_in05 (show m_X10_in z7 0 5 = true from by rw [← qz8]; exact eb_b_n0 h9))
                have hc : eb_M l yX10_clearMemory (Cond.code yX10_clearMemory cX10_clearMemory 3 none :: wsL_law) 0 0 D 18 cy rL ad σ [.ref (ad 0), .int x16] (none) z21 := by rw [qz21]; exact c_X10_clearMemory l D cy ad σ x16 hj_ (by rw [ex16, qz15, ← qz7]; exact l_in05 (show m_X10_in z7 0 5 = true from by rw [← qz8]; exact eb_b_n0 h9))
                refine eb_callV (n := 1) (as := [.int x16]) (rest := []) X hw hl.1 0 hc (by decide) ⟨rfl, rfl, rfl⟩ (eb_goodV wi_10_2 wi_10_3 wi_10_4 wi_1_5 wi_10_5) rfl (by decide +kernel) ⟨by decide, by decide⟩ rfl rfl (Nat.le_of_ble_eq_true rfl) dX10_hostCalls_127 ⟨by decide, by decide⟩ (st' := []) rfl (fun H locs hw => ?_)
                refine lv_aload_n hx hb dX10_hostCalls_130 rfl (lv_at hl 3 rfl) ?_
                refine eb_get (T := TX10) X hw 0 22 (by decide) ⟨rfl, rfl, rfl⟩ (by decide) (fun _ h => List.mem_cons_of_mem _ (inlX10 _ h)) (List.mem_cons_of_mem _ wi_5_16) (v := .ref (ad 6)) rfl dX10_hostCalls_131 ?_
                refine lv_iload hx hb dX10_hostCalls_134 (lv_at hl 0 rfl) ?_
                refine lv_iconst (v := 0) hx hb dX10_hostCalls_136 (by decide) ?_
                refine eb_iast (n := 6) X hw 6 (by decide) rfl rfl (by rw [ex16, qz15, ← qz7]; exact l_in05 (show m_X10_in z7 0 5 = true from by rw [← qz8]; exact eb_b_n0 h9)) dX10_hostCalls_137 (fun H locs hw => ?_)
                refine lv_aload_n hx hb dX10_hostCalls_138 rfl (lv_at hl 3 rfl) ?_
                refine lv_iconst (v := 0) hx hb dX10_hostCalls_139 (by decide) ?_
                refine eb_putI (T := TX10) X hw 0 35 (by decide) ⟨rfl, rfl, rfl⟩ (by decide) rfl (fun _ h => List.mem_cons_of_mem _ (inlX10 _ h)) (List.mem_cons_of_mem _ wi_9_21) tyX10 tyX10_ok nmX10 rfl rfl rfl dX10_hostCalls_140 (fun H locs hw => ?_)
                refine lv_aload_n hx hb dX10_hostCalls_143 rfl (lv_at hl 3 rfl) ?_
                refine lv_bipush (v := 10) hx hb dX10_hostCalls_144 (by decide) ?_
                refine lv_lconst (v := 0) hx hb dX10_hostCalls_146 (by decide) ?_
                obtain ⟨z22, qz22⟩ : ∃ t : eb_St, t = m_X10_give (eb_pI (eb_pI z21 6 x16.toNatClampNeg 0) 0 35 0) 10 0 := ⟨_, rfl⟩
                have hm : z22 = mm := by rw [qz22]; exact hm
                have jz22 : rJ z22 := J_X10_give qz22.symm (show rJ (eb_pI z21 6 x16.toNatClampNeg 0) from rJ_w jz21 (Or.inl rfl)) (vp_in_iff.mpr ⟨by decide, by decide⟩)
                have hc : eb_M l yX10_give (Cond.code yX10_give cX10_give 4 none :: wsL_law) 1 20 D 18 cy rL ad (eb_pI (eb_pI z21 6 x16.toNatClampNeg 0) 0 35 0) [.ref (ad 0), .int 10, .long 0] (none) z22 := by rw [qz22]; exact c_X10_give l D cy ad (eb_pI (eb_pI z21 6 x16.toNatClampNeg 0) 0 35 0) 10 0 (show rJ (eb_pI z21 6 x16.toNatClampNeg 0) from rJ_w jz21 (Or.inl rfl)) (vp_in_iff.mpr ⟨by decide, by decide⟩)
                refine eb_callV (n := 2) (as := [.int 10, .long 0]) (rest := []) X hw hl.1 0 hc (by decide) ⟨rfl, rfl, rfl⟩ (eb_goodV wi_32_6 wi_32_7 wi_32_8 wi_1_5 wi_32_9) rfl (by decide +kernel) ⟨by decide, by decide⟩ rfl rfl (Nat.le_of_ble_eq_true rfl) dX10_hostCalls_147 ⟨by decide, by decide⟩ (st' := []) rfl (fun H locs hw => ?_)
                refine lv_goto (tgt := 180) hx hb dX10_hostCalls_150 (by decide) ?_
                subst hm
                exact eb_vret X hw rfl rfl dX10_hostCalls_180
            · have hm := (if_pos h17).symm.trans hm
              refine lv_aload_n hx hb dX10_hostCalls_107 rfl (lv_at hl 3 rfl) ?_
              refine lv_iload hx hb dX10_hostCalls_108 (lv_at hl 0 rfl) ?_
              obtain ⟨z23, qz23⟩ : ∃ t : eb_St, t = m_X10_enter σ x16 := ⟨_, rfl⟩
              have hm : z23 = mm := by rw [qz23]; exact hm
              have jz23 : rJ z23 := J_X10_enter qz23.symm hj_ (by rw [ex16, qz15, ← qz7]; exact l_in05 (show m_X10_in z7 0 5 = true from by rw [← qz8]; exact eb_b_n0 h9)) (by rw [ex16, qz15, ← qz11]; exact l_X10_isLive (show m_X10_isLive _ _ = true from by rw [← qz12]; exact eb_b_n0 h13))
              have hc : eb_M l yX10_enter (Cond.code yX10_enter cX10_enter 2 none :: wsL_law) 2 43 D 18 cy rL ad σ [.ref (ad 0), .int x16] (none) z23 := by rw [qz23]; exact c_X10_enter l D cy ad σ x16 hj_ (by rw [ex16, qz15, ← qz7]; exact l_in05 (show m_X10_in z7 0 5 = true from by rw [← qz8]; exact eb_b_n0 h9)) (by rw [ex16, qz15, ← qz11]; exact l_X10_isLive (show m_X10_isLive _ _ = true from by rw [← qz12]; exact eb_b_n0 h13))
              refine eb_callV (n := 1) (as := [.int x16]) (rest := []) X hw hl.1 0 hc (by decide) ⟨rfl, rfl, rfl⟩ (eb_goodV wi_38_11 wi_38_12 wi_38_13 wi_1_5 wi_38_14) rfl (by decide +kernel) ⟨by decide, by decide⟩ rfl rfl (Nat.le_of_ble_eq_true rfl) dX10_hostCalls_110 ⟨by decide, by decide⟩ (st' := []) rfl (fun H locs hw => ?_)
              refine lv_goto (tgt := 180) hx hb dX10_hostCalls_113 (by decide) ?_
              subst hm
              exact eb_vret X hw rfl rfl dX10_hostCalls_180
  · have hm := (if_pos h2).symm.trans hm
    refine lv_aload_n hx hb dX10_hostCalls_13 rfl (lv_at hl 1 rfl) ?_
    refine lv_bipush (v := 10) hx hb dX10_hostCalls_14 (by decide) ?_
    refine lv_aload_n hx hb dX10_hostCalls_16 rfl (lv_at hl 1 rfl) ?_
    obtain ⟨z24, qz24⟩ : ∃ t : Int64 × eb_St, t = m_X10_create σ := ⟨_, rfl⟩
    have hm : (fun (z25 : eb_St) => z25) (m_X10_give z24.2 10 z24.1) = mm := by rw [qz24]; exact hm
    have jz24 : rJ z24.2 := J_X10_create qz24.symm hj_
    have hc : eb_M l yX10_create (Cond.code yX10_create cX10_create 17 (some .long) :: wsL_law) 6 146 D 18 cy rL ad σ [.ref (ad 0)] (some (.long z24.1)) z24.2 := by rw [qz24]; exact c_X10_create l D cy ad σ hj_
    refine eb_callV (n := 0) (as := []) (rest := [.int 10, .ref (ad 0)]) X hw hl.1 0 hc (by decide) ⟨rfl, rfl, rfl⟩ (eb_goodV wi_37_3 wi_37_4 wi_37_5 wi_1_5 wi_37_6) rfl (by decide +kernel) ⟨by decide, by decide⟩ rfl rfl (Nat.le_of_ble_eq_true rfl) dX10_hostCalls_17 ⟨by decide, by decide⟩ (st' := [.long z24.1, .int 10, .ref (ad 0)]) rfl (fun H locs hw => ?_)
    obtain ⟨z25, qz25⟩ : ∃ t : eb_St, t = m_X10_give z24.2 10 z24.1 := ⟨_, rfl⟩
    have hm : z25 = mm := by rw [qz25]; exact hm
    have jz25 : rJ z25 := J_X10_give qz25.symm jz24 (vp_in_iff.mpr ⟨by decide, by decide⟩)
    have hc : eb_M l yX10_give (Cond.code yX10_give cX10_give 4 none :: wsL_law) 1 20 D 18 cy rL ad z24.2 [.ref (ad 0), .int 10, .long z24.1] (none) z25 := by rw [qz25]; exact c_X10_give l D cy ad z24.2 10 z24.1 jz24 (vp_in_iff.mpr ⟨by decide, by decide⟩)
    refine eb_callV (n := 2) (as := [.int 10, .long z24.1]) (rest := []) X hw hl.1 0 hc (by decide) ⟨rfl, rfl, rfl⟩ (eb_goodV wi_32_6 wi_32_7 wi_32_8 wi_1_5 wi_32_9) rfl (by decide +kernel) ⟨by decide, by decide⟩ rfl rfl (Nat.le_of_ble_eq_true rfl) dX10_hostCalls_20 ⟨by decide, by decide⟩ (st' := []) rfl (fun H locs hw => ?_)
    subst hm
    exact eb_vret X hw rfl rfl dX10_hostCalls_23

theorem J_X10_system {σ : eb_St} {a0 : Int64} {mm : Int32 × eb_St} (hm : m_X10_system σ a0 = mm) (hj_ : rJ σ) : rJ mm.2 := by
  have hm : (if (σ.1 0 41) = 4 then (fun (z22 : Int32 × eb_St) => (z22.1, z22.2)) (m_X10_illegal σ) else (if (σ.1 0 41) = 0 then (if (σ.1 0 37) = 115 then (if (σ.1 0 4) = 0 then (fun (z5 : Int32) => (if (σ.1 0 8) < 0 then (fun (z7 : eb_St) => ((-1), z7)) (m_X10_hostCalls (eb_pJ σ 3 z5.toNatClampNeg (a0 + 4))) else (fun (z8 : eb_St) => ((-1), z8)) (m_X10_enclaveCalls (eb_pJ σ 3 z5.toNatClampNeg (a0 + 4))))) (m_X10_set σ) else (fun (z9 : Int32 × eb_St) => (z9.1, z9.2)) (m_X10_fault σ 11 0)) else if (σ.1 0 37) = 1048691 then (fun (z11 : Int32 × eb_St) => (z11.1, z11.2)) (m_X10_fault σ 3 a0) else if (σ.1 0 37) = 273678451 then (fun (z13 : Int32 × eb_St) => (z13.1, z13.2)) (m_X10_goesOn σ) else if (σ.1 0 37) = 807403635 then (if (σ.1 0 4) = 0 then (fun (z17 : Int32 × eb_St) => (z17.1, z17.2)) (m_X10_illegal σ) else (if (σ.2 0 15) = 3 then ((-1), eb_pJ (eb_pI (eb_pJ σ 3 ((6 : Int32).toNatClampNeg) (σ.2 0 17)) 0 4 1) 0 15 0) else ((-1), eb_pJ (eb_pI (eb_pJ σ 3 ((6 : Int32).toNatClampNeg) (σ.2 0 17)) 0 4 0) 0 15 0))) else (fun (z18 : Int32 × eb_St) => (z18.1, z18.2)) (m_X10_illegal σ)) else (if (σ.1 0 4) = 0 then (fun (z20 : Int32 × eb_St) => (z20.1, z20.2)) (m_X10_illegal σ) else (fun (z21 : Int32 × eb_St) => (z21.1, z21.2)) (m_X10_csr σ)))) = mm := hm
  refine eb_emn (c := (σ.1 0 41) = 4) (fun h1 => ?_) (fun h1 => ?_)
  · have hm := (if_neg h1).symm.trans hm
    refine eb_em (c := (σ.1 0 41) = 0) (fun h2 => ?_) (fun h2 => ?_)
    · have hm := (if_pos h2).symm.trans hm
      by_cases h3 : (σ.1 0 37) = 115
      · have hm := (if_pos h3).symm.trans hm
        refine eb_em (c := (σ.1 0 4) = 0) (fun h4 => ?_) (fun h4 => ?_)
        · have hm := (if_pos h4).symm.trans hm
          obtain ⟨z5, qz5⟩ : ∃ t : Int32, t = m_X10_set σ := ⟨_, rfl⟩
          have hm : (if (σ.1 0 8) < 0 then (fun (z7 : eb_St) => ((-1), z7)) (m_X10_hostCalls (eb_pJ σ 3 z5.toNatClampNeg (a0 + 4))) else (fun (z8 : eb_St) => ((-1), z8)) (m_X10_enclaveCalls (eb_pJ σ 3 z5.toNatClampNeg (a0 + 4)))) = mm := by rw [qz5]; exact hm
          refine eb_em (c := (σ.1 0 8) < 0) (fun h6 => ?_) (fun h6 => ?_)
          · have hm := (if_pos h6).symm.trans hm
            obtain ⟨z7, qz7⟩ : ∃ t : eb_St, t = m_X10_hostCalls (eb_pJ σ 3 z5.toNatClampNeg (a0 + 4)) := ⟨_, rfl⟩
            have hm : ((-1), z7) = mm := by rw [qz7]; exact hm
            have jz7 : rJ z7 := J_X10_hostCalls qz7.symm hj_
            subst hm
            exact jz7
          · have hm := (if_neg h6).symm.trans hm
            obtain ⟨z8, qz8⟩ : ∃ t : eb_St, t = m_X10_enclaveCalls (eb_pJ σ 3 z5.toNatClampNeg (a0 + 4)) := ⟨_, rfl⟩
            have hm : ((-1), z8) = mm := by rw [qz8]; exact hm
            have jz8 : rJ z8 := J_X10_enclaveCalls qz8.symm hj_ (rJ_in hj_ h6)
            subst hm
            exact jz8
        · have hm := (if_neg h4).symm.trans hm
          obtain ⟨z9, qz9⟩ : ∃ t : Int32 × eb_St, t = m_X10_fault σ 11 0 := ⟨_, rfl⟩
          have hm : (z9.1, z9.2) = mm := by rw [qz9]; exact hm
          have jz9 : rJ z9.2 := J_X10_fault qz9.symm hj_
          subst hm
          exact jz9
      · have hm := (if_neg h3).symm.trans hm
        by_cases h10 : (σ.1 0 37) = 1048691
        · have hm := (if_pos h10).symm.trans hm
          obtain ⟨z11, qz11⟩ : ∃ t : Int32 × eb_St, t = m_X10_fault σ 3 a0 := ⟨_, rfl⟩
          have hm : (z11.1, z11.2) = mm := by rw [qz11]; exact hm
          have jz11 : rJ z11.2 := J_X10_fault qz11.symm hj_
          subst hm
          exact jz11
        · have hm := (if_neg h10).symm.trans hm
          by_cases h12 : (σ.1 0 37) = 273678451
          · have hm := (if_pos h12).symm.trans hm
            obtain ⟨z13, qz13⟩ : ∃ t : Int32 × eb_St, t = m_X10_goesOn σ := ⟨_, rfl⟩
            have hm : (z13.1, z13.2) = mm := by rw [qz13]; exact hm
            have jz13 : rJ z13.2 := J_X10_goesOn qz13.symm hj_
            subst hm
            exact jz13
          · have hm := (if_neg h12).symm.trans hm
            by_cases h14 : (σ.1 0 37) = 807403635
            · have hm := (if_pos h14).symm.trans hm
              refine eb_emn (c := (σ.1 0 4) = 0) (fun h15 => ?_) (fun h15 => ?_)
              · have hm := (if_neg h15).symm.trans hm
                refine eb_emn (c := (σ.2 0 15) = 3) (fun h16 => ?_) (fun h16 => ?_)
                · have hm := (if_neg h16).symm.trans hm
                  subst hm
                  exact (show rJ (eb_pI (eb_pJ σ 3 ((6 : Int32).toNatClampNeg) (σ.2 0 17)) 0 4 0) from (rJ_mach hj_ (Or.inl rfl)))
                · have hm := (if_pos h16).symm.trans hm
                  subst hm
                  exact (show rJ (eb_pI (eb_pJ σ 3 ((6 : Int32).toNatClampNeg) (σ.2 0 17)) 0 4 1) from (rJ_mach hj_ (Or.inr rfl)))
              · have hm := (if_pos h15).symm.trans hm
                obtain ⟨z17, qz17⟩ : ∃ t : Int32 × eb_St, t = m_X10_illegal σ := ⟨_, rfl⟩
                have hm : (z17.1, z17.2) = mm := by rw [qz17]; exact hm
                have jz17 : rJ z17.2 := J_X10_illegal qz17.symm hj_
                subst hm
                exact jz17
            · have hm := (if_neg h14).symm.trans hm
              obtain ⟨z18, qz18⟩ : ∃ t : Int32 × eb_St, t = m_X10_illegal σ := ⟨_, rfl⟩
              have hm : (z18.1, z18.2) = mm := by rw [qz18]; exact hm
              have jz18 : rJ z18.2 := J_X10_illegal qz18.symm hj_
              subst hm
              exact jz18
    · have hm := (if_neg h2).symm.trans hm
      refine eb_em (c := (σ.1 0 4) = 0) (fun h19 => ?_) (fun h19 => ?_)
      · have hm := (if_pos h19).symm.trans hm
        obtain ⟨z20, qz20⟩ : ∃ t : Int32 × eb_St, t = m_X10_illegal σ := ⟨_, rfl⟩
        have hm : (z20.1, z20.2) = mm := by rw [qz20]; exact hm
        have jz20 : rJ z20.2 := J_X10_illegal qz20.symm hj_
        subst hm
        exact jz20
      · have hm := (if_neg h19).symm.trans hm
        obtain ⟨z21, qz21⟩ : ∃ t : Int32 × eb_St, t = m_X10_csr σ := ⟨_, rfl⟩
        have hm : (z21.1, z21.2) = mm := by rw [qz21]; exact hm
        have jz21 : rJ z21.2 := J_X10_csr qz21.symm hj_
        subst hm
        exact jz21
  · have hm := (if_pos h1).symm.trans hm
    obtain ⟨z22, qz22⟩ : ∃ t : Int32 × eb_St, t = m_X10_illegal σ := ⟨_, rfl⟩
    have hm : (z22.1, z22.2) = mm := by rw [qz22]; exact hm
    have jz22 : rJ z22.2 := J_X10_illegal qz22.symm hj_
    subst hm
    exact jz22
set_option maxHeartbeats 4000000 in
set_option maxRecDepth 100000 in
theorem c_X10_system (l : Launch) (D : va_G) (cy : Nat → ClassId) (ad : Nat → Nat) (σ : eb_St) (a0 : Int64) (hj_ : rJ σ) : eb_M l yX10_system (Cond.code yX10_system cX10_system 3 (some .int) :: wsL_law) 8 206 D 18 cy rL ad σ [.ref (ad 0), .long a0] (some (.int (m_X10_system σ a0).1)) ((m_X10_system σ a0).2) := by
  refine eb_start (own := RX10) (by decide) rfl rfl (Nat.le_of_ble_eq_true rfl) ?_
  intro p e s m args below meth c A ls X hw hl
  have hl : lv_has ls 3 [(0, .ref (ad 0)), (1, .long a0)] := hl
  have hx := X.1.1
  have hb := X.1.2.1
  have hown := X.1.2.2.2.1
  have hts := X.1.2.2.2.2
  generalize hm : m_X10_system σ a0 = mm
  have hm : (if (σ.1 0 41) = 4 then (fun (z22 : Int32 × eb_St) => (z22.1, z22.2)) (m_X10_illegal σ) else (if (σ.1 0 41) = 0 then (if (σ.1 0 37) = 115 then (if (σ.1 0 4) = 0 then (fun (z5 : Int32) => (if (σ.1 0 8) < 0 then (fun (z7 : eb_St) => ((-1), z7)) (m_X10_hostCalls (eb_pJ σ 3 z5.toNatClampNeg (a0 + 4))) else (fun (z8 : eb_St) => ((-1), z8)) (m_X10_enclaveCalls (eb_pJ σ 3 z5.toNatClampNeg (a0 + 4))))) (m_X10_set σ) else (fun (z9 : Int32 × eb_St) => (z9.1, z9.2)) (m_X10_fault σ 11 0)) else if (σ.1 0 37) = 1048691 then (fun (z11 : Int32 × eb_St) => (z11.1, z11.2)) (m_X10_fault σ 3 a0) else if (σ.1 0 37) = 273678451 then (fun (z13 : Int32 × eb_St) => (z13.1, z13.2)) (m_X10_goesOn σ) else if (σ.1 0 37) = 807403635 then (if (σ.1 0 4) = 0 then (fun (z17 : Int32 × eb_St) => (z17.1, z17.2)) (m_X10_illegal σ) else (if (σ.2 0 15) = 3 then ((-1), eb_pJ (eb_pI (eb_pJ σ 3 ((6 : Int32).toNatClampNeg) (σ.2 0 17)) 0 4 1) 0 15 0) else ((-1), eb_pJ (eb_pI (eb_pJ σ 3 ((6 : Int32).toNatClampNeg) (σ.2 0 17)) 0 4 0) 0 15 0))) else (fun (z18 : Int32 × eb_St) => (z18.1, z18.2)) (m_X10_illegal σ)) else (if (σ.1 0 4) = 0 then (fun (z20 : Int32 × eb_St) => (z20.1, z20.2)) (m_X10_illegal σ) else (fun (z21 : Int32 × eb_St) => (z21.1, z21.2)) (m_X10_csr σ)))) = mm := hm
  refine lv_aload_n hx hb dX10_system_0 rfl (lv_at hl 0 rfl) ?_
  refine eb_get (T := TX10) X hw 0 41 (by decide) ⟨rfl, rfl, rfl⟩ (by decide) (fun _ h => List.mem_cons_of_mem _ (inlX10 _ h)) (List.mem_cons_of_mem _ wi_30_10) (v := .int (σ.1 0 41)) rfl dX10_system_1 ?_
  refine lv_iconst (v := 4) hx hb dX10_system_4 (by decide) ?_
  refine lv_icmp_ne (tgt := 13) hx hb dX10_system_5 (by decide) (fun h1 => ?_) (fun h1 => ?_)
  · have hm := (if_neg h1).symm.trans hm
    refine lv_aload_n hx hb dX10_system_13 rfl (lv_at hl 0 rfl) ?_
    refine eb_get (T := TX10) X hw 0 41 (by decide) ⟨rfl, rfl, rfl⟩ (by decide) (fun _ h => List.mem_cons_of_mem _ (inlX10 _ h)) (List.mem_cons_of_mem _ wi_30_10) (v := .int (σ.1 0 41)) rfl dX10_system_14 ?_
    refine lv_if_eq (tgt := 39) hx hb dX10_system_17 (by decide) (fun h2 => ?_) (fun h2 => ?_)
    · have hm := (if_pos h2).symm.trans hm
      refine lv_aload_n hx hb dX10_system_39 rfl (lv_at hl 0 rfl) ?_
      refine eb_get (T := TX10) X hw 0 37 (by decide) ⟨rfl, rfl, rfl⟩ (by decide) (fun _ h => List.mem_cons_of_mem _ (inlX10 _ h)) (List.mem_cons_of_mem _ wi_30_8) (v := .int (σ.1 0 37)) rfl dX10_system_40 ?_
      by_cases h3 : (σ.1 0 37) = 115
      · have hm := (if_pos h3).symm.trans hm
        refine lv_lookup (off := 41) (tgt := 84) hx hb dX10_system_43 (by decide) (by rw [h3]; decide) (by decide) ?_
        refine lv_aload_n hx hb dX10_system_84 rfl (lv_at hl 0 rfl) ?_
        refine eb_get (T := TX10) X hw 0 4 (by decide) ⟨rfl, rfl, rfl⟩ (by decide) (fun _ h => List.mem_cons_of_mem _ (inlX10 _ h)) (List.mem_cons_of_mem _ wi_5_11) (v := .int (σ.1 0 4)) rfl dX10_system_85 ?_
        refine lv_if_eq (tgt := 99) hx hb dX10_system_88 (by decide) (fun h4 => ?_) (fun h4 => ?_)
        · have hm := (if_pos h4).symm.trans hm
          refine lv_aload_n hx hb dX10_system_99 rfl (lv_at hl 0 rfl) ?_
          refine eb_get (T := TX10) X hw 0 3 (by decide) ⟨rfl, rfl, rfl⟩ (by decide) (fun _ h => List.mem_cons_of_mem _ (inlX10 _ h)) (List.mem_cons_of_mem _ wi_5_10) (v := .ref (ad 3)) rfl dX10_system_100 ?_
          refine lv_aload_n hx hb dX10_system_103 rfl (lv_at hl 0 rfl) ?_
          obtain ⟨z5, qz5⟩ : ∃ t : Int32, t = m_X10_set σ := ⟨_, rfl⟩
          have hm : (if (σ.1 0 8) < 0 then (fun (z7 : eb_St) => ((-1), z7)) (m_X10_hostCalls (eb_pJ σ 3 z5.toNatClampNeg (a0 + 4))) else (fun (z8 : eb_St) => ((-1), z8)) (m_X10_enclaveCalls (eb_pJ σ 3 z5.toNatClampNeg (a0 + 4)))) = mm := by rw [qz5]; exact hm
          have hc : eb_M l yX10_set (Cond.code yX10_set cX10_set 1 (some .int) :: wsL_law) 0 0 D 18 cy rL ad σ [.ref (ad 0)] (some (.int z5)) σ := by rw [qz5]; exact c_X10_set l D cy ad σ 
          refine eb_callV (n := 0) (as := []) (rest := [.ref (ad 3)]) X hw hl.1 0 hc (by decide) ⟨rfl, rfl, rfl⟩ (eb_goodV wi_30_16 wi_30_17 wi_30_18 wi_1_5 wi_30_19) rfl (by decide +kernel) ⟨by decide, by decide⟩ rfl rfl (Nat.le_of_ble_eq_true rfl) dX10_system_104 ⟨by decide, by decide⟩ (st' := [.int z5, .ref (ad 3)]) rfl (fun H locs hw => ?_)
          refine lv_lload_n hx hb dX10_system_107 rfl (lv_at hl 1 rfl) ?_
          refine lv_ldc2 hx hb hown (hts _ (List.mem_cons_of_mem _ wi_30_14)) dX10_system_108 ?_
          refine lv_ladd hx hb dX10_system_111 ?_
          refine eb_last (n := 7) X hw 3 (by decide) rfl rfl (by rw [qz5]; exact l_X10_set hj_) dX10_system_112 (fun H locs hw => ?_)
          refine lv_aload_n hx hb dX10_system_113 rfl (lv_at hl 0 rfl) ?_
          refine eb_get (T := TX10) X hw 0 8 (by decide) ⟨rfl, rfl, rfl⟩ (by decide) (fun _ h => List.mem_cons_of_mem _ (inlX10 _ h)) (List.mem_cons_of_mem _ wi_5_13) (v := .int (σ.1 0 8)) rfl dX10_system_114 ?_
          refine lv_if_lt (tgt := 127) hx hb dX10_system_117 (by decide) (fun h6 => ?_) (fun h6 => ?_)
          · have hm := (if_pos h6).symm.trans hm
            refine lv_aload_n hx hb dX10_system_127 rfl (lv_at hl 0 rfl) ?_
            obtain ⟨z7, qz7⟩ : ∃ t : eb_St, t = m_X10_hostCalls (eb_pJ σ 3 z5.toNatClampNeg (a0 + 4)) := ⟨_, rfl⟩
            have hm : ((-1), z7) = mm := by rw [qz7]; exact hm
            have jz7 : rJ z7 := J_X10_hostCalls qz7.symm hj_
            have hc : eb_M l yX10_hostCalls (Cond.code yX10_hostCalls cX10_hostCalls 5 none :: wsL_law) 7 182 D 18 cy rL ad (eb_pJ σ 3 z5.toNatClampNeg (a0 + 4)) [.ref (ad 0)] (none) z7 := by rw [qz7]; exact c_X10_hostCalls l D cy ad (eb_pJ σ 3 z5.toNatClampNeg (a0 + 4)) hj_
            refine eb_callV (n := 0) (as := []) (rest := []) X hw hl.1 0 hc (by decide) ⟨rfl, rfl, rfl⟩ (eb_goodV wi_36_22 wi_36_23 wi_37_0 wi_1_5 wi_37_1) rfl (by decide +kernel) ⟨by decide, by decide⟩ rfl rfl (Nat.le_of_ble_eq_true rfl) dX10_system_128 ⟨by decide, by decide⟩ (st' := []) rfl (fun H locs hw => ?_)
            refine lv_iconst (v := (-1)) hx hb dX10_system_131 (by decide) ?_
            subst hm
            exact eb_iret X hw rfl rfl rfl dX10_system_132
          · have hm := (if_neg h6).symm.trans hm
            refine lv_aload_n hx hb dX10_system_120 rfl (lv_at hl 0 rfl) ?_
            obtain ⟨z8, qz8⟩ : ∃ t : eb_St, t = m_X10_enclaveCalls (eb_pJ σ 3 z5.toNatClampNeg (a0 + 4)) := ⟨_, rfl⟩
            have hm : ((-1), z8) = mm := by rw [qz8]; exact hm
            have jz8 : rJ z8 := J_X10_enclaveCalls qz8.symm hj_ (rJ_in hj_ h6)
            have hc : eb_M l yX10_enclaveCalls (Cond.code yX10_enclaveCalls cX10_enclaveCalls 4 none :: wsL_law) 2 49 D 18 cy rL ad (eb_pJ σ 3 z5.toNatClampNeg (a0 + 4)) [.ref (ad 0)] (none) z8 := by rw [qz8]; exact c_X10_enclaveCalls l D cy ad (eb_pJ σ 3 z5.toNatClampNeg (a0 + 4)) hj_ (rJ_in hj_ h6)
            refine eb_callV (n := 0) (as := []) (rest := []) X hw hl.1 0 hc (by decide) ⟨rfl, rfl, rfl⟩ (eb_goodV wi_36_12 wi_36_13 wi_36_14 wi_1_5 wi_36_15) rfl (by decide +kernel) ⟨by decide, by decide⟩ rfl rfl (Nat.le_of_ble_eq_true rfl) dX10_system_121 ⟨by decide, by decide⟩ (st' := []) rfl (fun H locs hw => ?_)
            refine lv_goto (tgt := 131) hx hb dX10_system_124 (by decide) ?_
            refine lv_iconst (v := (-1)) hx hb dX10_system_131 (by decide) ?_
            subst hm
            exact eb_iret X hw rfl rfl rfl dX10_system_132
        · have hm := (if_neg h4).symm.trans hm
          refine lv_aload_n hx hb dX10_system_91 rfl (lv_at hl 0 rfl) ?_
          refine lv_bipush (v := 11) hx hb dX10_system_92 (by decide) ?_
          refine lv_lconst (v := 0) hx hb dX10_system_94 (by decide) ?_
          obtain ⟨z9, qz9⟩ : ∃ t : Int32 × eb_St, t = m_X10_fault σ 11 0 := ⟨_, rfl⟩
          have hm : (z9.1, z9.2) = mm := by rw [qz9]; exact hm
          have jz9 : rJ z9.2 := J_X10_fault qz9.symm hj_
          have hc : eb_M l yX10_fault (Cond.code yX10_fault cX10_fault 4 (some .int) :: wsL_law) 0 0 D 18 cy rL ad σ [.ref (ad 0), .int 11, .long 0] (some (.int z9.1)) z9.2 := by rw [qz9]; exact c_X10_fault l D cy ad σ 11 0 hj_
          refine eb_callV (n := 2) (as := [.int 11, .long 0]) (rest := []) X hw hl.1 0 hc (by decide) ⟨rfl, rfl, rfl⟩ (eb_goodV wi_30_20 wi_30_21 wi_30_22 wi_1_5 wi_30_23) rfl (by decide +kernel) ⟨by decide, by decide⟩ rfl rfl (Nat.le_of_ble_eq_true rfl) dX10_system_95 ⟨by decide, by decide⟩ (st' := [.int z9.1]) rfl (fun H locs hw => ?_)
          subst hm
          exact eb_iret X hw rfl rfl rfl dX10_system_98
      · have hm := (if_neg h3).symm.trans hm
        by_cases h10 : (σ.1 0 37) = 1048691
        · have hm := (if_pos h10).symm.trans hm
          refine lv_lookup (off := 90) (tgt := 133) hx hb dX10_system_43 (by decide) (by rw [h10]; decide) (by decide) ?_
          refine lv_aload_n hx hb dX10_system_133 rfl (lv_at hl 0 rfl) ?_
          refine lv_iconst (v := 3) hx hb dX10_system_134 (by decide) ?_
          refine lv_lload_n hx hb dX10_system_135 rfl (lv_at hl 1 rfl) ?_
          obtain ⟨z11, qz11⟩ : ∃ t : Int32 × eb_St, t = m_X10_fault σ 3 a0 := ⟨_, rfl⟩
          have hm : (z11.1, z11.2) = mm := by rw [qz11]; exact hm
          have jz11 : rJ z11.2 := J_X10_fault qz11.symm hj_
          have hc : eb_M l yX10_fault (Cond.code yX10_fault cX10_fault 4 (some .int) :: wsL_law) 0 0 D 18 cy rL ad σ [.ref (ad 0), .int 3, .long a0] (some (.int z11.1)) z11.2 := by rw [qz11]; exact c_X10_fault l D cy ad σ 3 a0 hj_
          refine eb_callV (n := 2) (as := [.int 3, .long a0]) (rest := []) X hw hl.1 0 hc (by decide) ⟨rfl, rfl, rfl⟩ (eb_goodV wi_30_20 wi_30_21 wi_30_22 wi_1_5 wi_30_23) rfl (by decide +kernel) ⟨by decide, by decide⟩ rfl rfl (Nat.le_of_ble_eq_true rfl) dX10_system_136 ⟨by decide, by decide⟩ (st' := [.int z11.1]) rfl (fun H locs hw => ?_)
          subst hm
          exact eb_iret X hw rfl rfl rfl dX10_system_139
        · have hm := (if_neg h10).symm.trans hm
          by_cases h12 : (σ.1 0 37) = 273678451
          · have hm := (if_pos h12).symm.trans hm
            refine lv_lookup (off := 97) (tgt := 140) hx hb dX10_system_43 (by decide) (by rw [h12]; decide) (by decide) ?_
            refine lv_aload_n hx hb dX10_system_140 rfl (lv_at hl 0 rfl) ?_
            obtain ⟨z13, qz13⟩ : ∃ t : Int32 × eb_St, t = m_X10_goesOn σ := ⟨_, rfl⟩
            have hm : (z13.1, z13.2) = mm := by rw [qz13]; exact hm
            have jz13 : rJ z13.2 := J_X10_goesOn qz13.symm hj_
            have hc : eb_M l yX10_goesOn (Cond.code yX10_goesOn cX10_goesOn 1 (some .int) :: wsL_law) 1 20 D 18 cy rL ad σ [.ref (ad 0)] (some (.int z13.1)) z13.2 := by rw [qz13]; exact c_X10_goesOn l D cy ad σ hj_
            refine eb_callV (n := 0) (as := []) (rest := []) X hw hl.1 0 hc (by decide) ⟨rfl, rfl, rfl⟩ (eb_goodV wi_32_10 wi_32_11 wi_32_12 wi_1_5 wi_32_13) rfl (by decide +kernel) ⟨by decide, by decide⟩ rfl rfl (Nat.le_of_ble_eq_true rfl) dX10_system_141 ⟨by decide, by decide⟩ (st' := [.int z13.1]) rfl (fun H locs hw => ?_)
            subst hm
            exact eb_iret X hw rfl rfl rfl dX10_system_144
          · have hm := (if_neg h12).symm.trans hm
            by_cases h14 : (σ.1 0 37) = 807403635
            · have hm := (if_pos h14).symm.trans hm
              refine lv_lookup (off := 102) (tgt := 145) hx hb dX10_system_43 (by decide) (by rw [h14]; decide) (by decide) ?_
              refine lv_aload_n hx hb dX10_system_145 rfl (lv_at hl 0 rfl) ?_
              refine eb_get (T := TX10) X hw 0 4 (by decide) ⟨rfl, rfl, rfl⟩ (by decide) (fun _ h => List.mem_cons_of_mem _ (inlX10 _ h)) (List.mem_cons_of_mem _ wi_5_11) (v := .int (σ.1 0 4)) rfl dX10_system_146 ?_
              refine lv_if_ne (tgt := 157) hx hb dX10_system_149 (by decide) (fun h15 => ?_) (fun h15 => ?_)
              · have hm := (if_neg h15).symm.trans hm
                refine lv_aload_n hx hb dX10_system_157 rfl (lv_at hl 0 rfl) ?_
                refine eb_get (T := TX10) X hw 0 3 (by decide) ⟨rfl, rfl, rfl⟩ (by decide) (fun _ h => List.mem_cons_of_mem _ (inlX10 _ h)) (List.mem_cons_of_mem _ wi_5_10) (v := .ref (ad 3)) rfl dX10_system_158 ?_
                refine lv_bipush (v := 6) hx hb dX10_system_161 (by decide) ?_
                refine lv_aload_n hx hb dX10_system_163 rfl (lv_at hl 0 rfl) ?_
                refine eb_get (T := TX10) X hw 0 17 (by decide) ⟨rfl, rfl, rfl⟩ (by decide) (fun _ h => List.mem_cons_of_mem _ (inlX10 _ h)) (List.mem_cons_of_mem _ wi_9_18) (v := .long (σ.2 0 17)) rfl dX10_system_164 ?_
                refine eb_last (n := 7) X hw 3 (by decide) rfl rfl (vp_in_iff.mpr ⟨by decide, by decide⟩) dX10_system_167 (fun H locs hw => ?_)
                refine lv_aload_n hx hb dX10_system_168 rfl (lv_at hl 0 rfl) ?_
                refine lv_aload_n hx hb dX10_system_169 rfl (lv_at hl 0 rfl) ?_
                refine eb_get (T := TX10) X hw 0 15 (by decide) ⟨rfl, rfl, rfl⟩ (by decide) (fun _ h => List.mem_cons_of_mem _ (inlX10 _ h)) (List.mem_cons_of_mem _ wi_9_16) (v := .long (σ.2 0 15)) rfl dX10_system_170 ?_
                refine lv_ldc2 hx hb hown (hts _ (List.mem_cons_of_mem _ wi_30_7)) dX10_system_173 ?_
                refine eb_lif_ne (tgt := 184) hx hb dX10_system_176 dX10_system_177 (by decide) (fun h16 => ?_) (fun h16 => ?_)
                · have hm := (if_neg h16).symm.trans hm
                  refine lv_iconst (v := 0) hx hb dX10_system_184 (by decide) ?_
                  refine eb_putI (T := TX10) X hw 0 4 (by decide) ⟨rfl, rfl, rfl⟩ (by decide) rfl (fun _ h => List.mem_cons_of_mem _ (inlX10 _ h)) (List.mem_cons_of_mem _ wi_5_11) tyX10 tyX10_ok nmX10 rfl rfl rfl dX10_system_185 (fun H locs hw => ?_)
                  refine lv_aload_n hx hb dX10_system_188 rfl (lv_at hl 0 rfl) ?_
                  refine lv_lconst (v := 0) hx hb dX10_system_189 (by decide) ?_
                  refine eb_putJ (T := TX10) X hw 0 15 (by decide) ⟨rfl, rfl, rfl⟩ (by decide) rfl (fun _ h => List.mem_cons_of_mem _ (inlX10 _ h)) (List.mem_cons_of_mem _ wi_9_16) tyX10 tyX10_ok nmX10 rfl rfl rfl dX10_system_190 (fun H locs hw => ?_)
                  refine lv_iconst (v := (-1)) hx hb dX10_system_193 (by decide) ?_
                  subst hm
                  exact eb_iret X hw rfl rfl rfl dX10_system_194
                · have hm := (if_pos h16).symm.trans hm
                  refine lv_iconst (v := 1) hx hb dX10_system_180 (by decide) ?_
                  refine lv_goto (tgt := 185) hx hb dX10_system_181 (by decide) ?_
                  refine eb_putI (T := TX10) X hw 0 4 (by decide) ⟨rfl, rfl, rfl⟩ (by decide) rfl (fun _ h => List.mem_cons_of_mem _ (inlX10 _ h)) (List.mem_cons_of_mem _ wi_5_11) tyX10 tyX10_ok nmX10 rfl rfl rfl dX10_system_185 (fun H locs hw => ?_)
                  refine lv_aload_n hx hb dX10_system_188 rfl (lv_at hl 0 rfl) ?_
                  refine lv_lconst (v := 0) hx hb dX10_system_189 (by decide) ?_
                  refine eb_putJ (T := TX10) X hw 0 15 (by decide) ⟨rfl, rfl, rfl⟩ (by decide) rfl (fun _ h => List.mem_cons_of_mem _ (inlX10 _ h)) (List.mem_cons_of_mem _ wi_9_16) tyX10 tyX10_ok nmX10 rfl rfl rfl dX10_system_190 (fun H locs hw => ?_)
                  refine lv_iconst (v := (-1)) hx hb dX10_system_193 (by decide) ?_
                  subst hm
                  exact eb_iret X hw rfl rfl rfl dX10_system_194
              · have hm := (if_pos h15).symm.trans hm
                refine lv_aload_n hx hb dX10_system_152 rfl (lv_at hl 0 rfl) ?_
                obtain ⟨z17, qz17⟩ : ∃ t : Int32 × eb_St, t = m_X10_illegal σ := ⟨_, rfl⟩
                have hm : (z17.1, z17.2) = mm := by rw [qz17]; exact hm
                have jz17 : rJ z17.2 := J_X10_illegal qz17.symm hj_
                have hc : eb_M l yX10_illegal (Cond.code yX10_illegal cX10_illegal 1 (some .int) :: wsL_law) 1 23 D 18 cy rL ad σ [.ref (ad 0)] (some (.int z17.1)) z17.2 := by rw [qz17]; exact c_X10_illegal l D cy ad σ hj_
                refine eb_callV (n := 0) (as := []) (rest := []) X hw hl.1 0 hc (by decide) ⟨rfl, rfl, rfl⟩ (eb_goodV wi_32_23 wi_33_0 wi_33_1 wi_1_5 wi_33_2) rfl (by decide +kernel) ⟨by decide, by decide⟩ rfl rfl (Nat.le_of_ble_eq_true rfl) dX10_system_153 ⟨by decide, by decide⟩ (st' := [.int z17.1]) rfl (fun H locs hw => ?_)
                subst hm
                exact eb_iret X hw rfl rfl rfl dX10_system_156
            · have hm := (if_neg h14).symm.trans hm
              refine lv_lookup (off := 152) (tgt := 195) hx hb dX10_system_43 (by decide) (by show Op.lookupswitch.offset [(115, 41), (1048691, 90), (273678451, 97), (807403635, 102)] _ _ = _; rw [lv_osw h3 (by decide)]; rw [lv_osw h10 (by decide)]; rw [lv_osw h12 (by decide)]; rw [lv_osw h14 (by decide)]; rfl) (by decide) ?_
              refine lv_aload_n hx hb dX10_system_195 rfl (lv_at hl 0 rfl) ?_
              obtain ⟨z18, qz18⟩ : ∃ t : Int32 × eb_St, t = m_X10_illegal σ := ⟨_, rfl⟩
              have hm : (z18.1, z18.2) = mm := by rw [qz18]; exact hm
              have jz18 : rJ z18.2 := J_X10_illegal qz18.symm hj_
              have hc : eb_M l yX10_illegal (Cond.code yX10_illegal cX10_illegal 1 (some .int) :: wsL_law) 1 23 D 18 cy rL ad σ [.ref (ad 0)] (some (.int z18.1)) z18.2 := by rw [qz18]; exact c_X10_illegal l D cy ad σ hj_
              refine eb_callV (n := 0) (as := []) (rest := []) X hw hl.1 0 hc (by decide) ⟨rfl, rfl, rfl⟩ (eb_goodV wi_32_23 wi_33_0 wi_33_1 wi_1_5 wi_33_2) rfl (by decide +kernel) ⟨by decide, by decide⟩ rfl rfl (Nat.le_of_ble_eq_true rfl) dX10_system_196 ⟨by decide, by decide⟩ (st' := [.int z18.1]) rfl (fun H locs hw => ?_)
              subst hm
              exact eb_iret X hw rfl rfl rfl dX10_system_199
    · have hm := (if_neg h2).symm.trans hm
      refine lv_aload_n hx hb dX10_system_20 rfl (lv_at hl 0 rfl) ?_
      refine eb_get (T := TX10) X hw 0 4 (by decide) ⟨rfl, rfl, rfl⟩ (by decide) (fun _ h => List.mem_cons_of_mem _ (inlX10 _ h)) (List.mem_cons_of_mem _ wi_5_11) (v := .int (σ.1 0 4)) rfl dX10_system_21 ?_
      refine lv_if_eq (tgt := 34) hx hb dX10_system_24 (by decide) (fun h19 => ?_) (fun h19 => ?_)
      · have hm := (if_pos h19).symm.trans hm
        refine lv_aload_n hx hb dX10_system_34 rfl (lv_at hl 0 rfl) ?_
        obtain ⟨z20, qz20⟩ : ∃ t : Int32 × eb_St, t = m_X10_illegal σ := ⟨_, rfl⟩
        have hm : (z20.1, z20.2) = mm := by rw [qz20]; exact hm
        have jz20 : rJ z20.2 := J_X10_illegal qz20.symm hj_
        have hc : eb_M l yX10_illegal (Cond.code yX10_illegal cX10_illegal 1 (some .int) :: wsL_law) 1 23 D 18 cy rL ad σ [.ref (ad 0)] (some (.int z20.1)) z20.2 := by rw [qz20]; exact c_X10_illegal l D cy ad σ hj_
        refine eb_callV (n := 0) (as := []) (rest := []) X hw hl.1 0 hc (by decide) ⟨rfl, rfl, rfl⟩ (eb_goodV wi_32_23 wi_33_0 wi_33_1 wi_1_5 wi_33_2) rfl (by decide +kernel) ⟨by decide, by decide⟩ rfl rfl (Nat.le_of_ble_eq_true rfl) dX10_system_35 ⟨by decide, by decide⟩ (st' := [.int z20.1]) rfl (fun H locs hw => ?_)
        subst hm
        exact eb_iret X hw rfl rfl rfl dX10_system_38
      · have hm := (if_neg h19).symm.trans hm
        refine lv_aload_n hx hb dX10_system_27 rfl (lv_at hl 0 rfl) ?_
        obtain ⟨z21, qz21⟩ : ∃ t : Int32 × eb_St, t = m_X10_csr σ := ⟨_, rfl⟩
        have hm : (z21.1, z21.2) = mm := by rw [qz21]; exact hm
        have jz21 : rJ z21.2 := J_X10_csr qz21.symm hj_
        have hc : eb_M l yX10_csr (Cond.code yX10_csr cX10_csr 7 (some .int) :: wsL_law) 4 87 D 18 cy rL ad σ [.ref (ad 0)] (some (.int z21.1)) z21.2 := by rw [qz21]; exact c_X10_csr l D cy ad σ hj_
        refine eb_callV (n := 0) (as := []) (rest := []) X hw hl.1 0 hc (by decide) ⟨rfl, rfl, rfl⟩ (eb_goodV wi_35_8 wi_35_9 wi_35_10 wi_1_5 wi_35_11) rfl (by decide +kernel) ⟨by decide, by decide⟩ rfl rfl (Nat.le_of_ble_eq_true rfl) dX10_system_28 ⟨by decide, by decide⟩ (st' := [.int z21.1]) rfl (fun H locs hw => ?_)
        refine lv_goto (tgt := 38) hx hb dX10_system_31 (by decide) ?_
        subst hm
        exact eb_iret X hw rfl rfl rfl dX10_system_38
  · have hm := (if_pos h1).symm.trans hm
    refine lv_aload_n hx hb dX10_system_8 rfl (lv_at hl 0 rfl) ?_
    obtain ⟨z22, qz22⟩ : ∃ t : Int32 × eb_St, t = m_X10_illegal σ := ⟨_, rfl⟩
    have hm : (z22.1, z22.2) = mm := by rw [qz22]; exact hm
    have jz22 : rJ z22.2 := J_X10_illegal qz22.symm hj_
    have hc : eb_M l yX10_illegal (Cond.code yX10_illegal cX10_illegal 1 (some .int) :: wsL_law) 1 23 D 18 cy rL ad σ [.ref (ad 0)] (some (.int z22.1)) z22.2 := by rw [qz22]; exact c_X10_illegal l D cy ad σ hj_
    refine eb_callV (n := 0) (as := []) (rest := []) X hw hl.1 0 hc (by decide) ⟨rfl, rfl, rfl⟩ (eb_goodV wi_32_23 wi_33_0 wi_33_1 wi_1_5 wi_33_2) rfl (by decide +kernel) ⟨by decide, by decide⟩ rfl rfl (Nat.le_of_ble_eq_true rfl) dX10_system_9 ⟨by decide, by decide⟩ (st' := [.int z22.1]) rfl (fun H locs hw => ?_)
    subst hm
    exact eb_iret X hw rfl rfl rfl dX10_system_12

theorem J_X10_instruction {σ : eb_St}  {mm : Int32 × eb_St} (hm : m_X10_instruction σ = mm) (hj_ : rJ σ) : rJ mm.2 := by
  have hm : (fun (z1 : Int32) => (fun (x2 : Int64) => (if (x2 &&& 3) = 0 then (fun (z4 : Bool) => (if (eb_b z4) = 0 then (fun (z6 : Int32 × eb_St) => (z6.1, z6.2)) (m_X10_fault σ 1 x2) else (fun (z7 : Bool × eb_St) => (if (eb_b z7.1) = 0 then (fun (z43 : Int32 × eb_St) => (z43.1, z43.2)) (m_X10_fault z7.2 1 x2) else (fun (z9 : Int64) => (if (z9.toInt32 &&& 127) = 3 then (fun (z11 : Int32 × eb_St) => (z11.1, z11.2)) (m_X10_loads (eb_pI (eb_pI (eb_pI (eb_pI (eb_pI (eb_pI z7.2 0 37 z9.toInt32) 0 38 ((z9.toInt32 >>> (7 &&& 31)) &&& 31)) 0 41 ((z9.toInt32 >>> (12 &&& 31)) &&& 7)) 0 39 ((z9.toInt32 >>> (15 &&& 31)) &&& 31)) 0 40 ((z9.toInt32 >>> (20 &&& 31)) &&& 31)) 0 42 (eb_iushr z9.toInt32 25))) else if (z9.toInt32 &&& 127) = 15 then (if ((z9.toInt32 >>> (12 &&& 31)) &&& 7) ≤ 1 then (fun (z14 : Int32 × eb_St) => (z14.1, z14.2)) (m_X10_goesOn (eb_pI (eb_pI (eb_pI (eb_pI (eb_pI (eb_pI z7.2 0 37 z9.toInt32) 0 38 ((z9.toInt32 >>> (7 &&& 31)) &&& 31)) 0 41 ((z9.toInt32 >>> (12 &&& 31)) &&& 7)) 0 39 ((z9.toInt32 >>> (15 &&& 31)) &&& 31)) 0 40 ((z9.toInt32 >>> (20 &&& 31)) &&& 31)) 0 42 (eb_iushr z9.toInt32 25))) else (fun (z15 : Int32 × eb_St) => (z15.1, z15.2)) (m_X10_illegal (eb_pI (eb_pI (eb_pI (eb_pI (eb_pI (eb_pI z7.2 0 37 z9.toInt32) 0 38 ((z9.toInt32 >>> (7 &&& 31)) &&& 31)) 0 41 ((z9.toInt32 >>> (12 &&& 31)) &&& 7)) 0 39 ((z9.toInt32 >>> (15 &&& 31)) &&& 31)) 0 40 ((z9.toInt32 >>> (20 &&& 31)) &&& 31)) 0 42 (eb_iushr z9.toInt32 25)))) else if (z9.toInt32 &&& 127) = 19 then (fun (z17 : Int32 × eb_St) => (z17.1, z17.2)) (m_X10_immediate (eb_pI (eb_pI (eb_pI (eb_pI (eb_pI (eb_pI z7.2 0 37 z9.toInt32) 0 38 ((z9.toInt32 >>> (7 &&& 31)) &&& 31)) 0 41 ((z9.toInt32 >>> (12 &&& 31)) &&& 7)) 0 39 ((z9.toInt32 >>> (15 &&& 31)) &&& 31)) 0 40 ((z9.toInt32 >>> (20 &&& 31)) &&& 31)) 0 42 (eb_iushr z9.toInt32 25))) else if (z9.toInt32 &&& 127) = 23 then (fun (z19 : Int32 × eb_St) => (z19.1, z19.2)) (m_X10_sets (eb_pI (eb_pI (eb_pI (eb_pI (eb_pI (eb_pI z7.2 0 37 z9.toInt32) 0 38 ((z9.toInt32 >>> (7 &&& 31)) &&& 31)) 0 41 ((z9.toInt32 >>> (12 &&& 31)) &&& 7)) 0 39 ((z9.toInt32 >>> (15 &&& 31)) &&& 31)) 0 40 ((z9.toInt32 >>> (20 &&& 31)) &&& 31)) 0 42 (eb_iushr z9.toInt32 25)) (x2 + ((z9.toInt32 &&& (-4096)).toInt64))) else if (z9.toInt32 &&& 127) = 27 then (fun (z21 : Int32 × eb_St) => (z21.1, z21.2)) (m_X10_immediateW (eb_pI (eb_pI (eb_pI (eb_pI (eb_pI (eb_pI z7.2 0 37 z9.toInt32) 0 38 ((z9.toInt32 >>> (7 &&& 31)) &&& 31)) 0 41 ((z9.toInt32 >>> (12 &&& 31)) &&& 7)) 0 39 ((z9.toInt32 >>> (15 &&& 31)) &&& 31)) 0 40 ((z9.toInt32 >>> (20 &&& 31)) &&& 31)) 0 42 (eb_iushr z9.toInt32 25))) else if (z9.toInt32 &&& 127) = 35 then (fun (z23 : Int32 × eb_St) => (z23.1, z23.2)) (m_X10_stores (eb_pI (eb_pI (eb_pI (eb_pI (eb_pI (eb_pI z7.2 0 37 z9.toInt32) 0 38 ((z9.toInt32 >>> (7 &&& 31)) &&& 31)) 0 41 ((z9.toInt32 >>> (12 &&& 31)) &&& 7)) 0 39 ((z9.toInt32 >>> (15 &&& 31)) &&& 31)) 0 40 ((z9.toInt32 >>> (20 &&& 31)) &&& 31)) 0 42 (eb_iushr z9.toInt32 25))) else if (z9.toInt32 &&& 127) = 51 then (fun (z25 : Int32 × eb_St) => (z25.1, z25.2)) (m_X10_registers (eb_pI (eb_pI (eb_pI (eb_pI (eb_pI (eb_pI z7.2 0 37 z9.toInt32) 0 38 ((z9.toInt32 >>> (7 &&& 31)) &&& 31)) 0 41 ((z9.toInt32 >>> (12 &&& 31)) &&& 7)) 0 39 ((z9.toInt32 >>> (15 &&& 31)) &&& 31)) 0 40 ((z9.toInt32 >>> (20 &&& 31)) &&& 31)) 0 42 (eb_iushr z9.toInt32 25))) else if (z9.toInt32 &&& 127) = 55 then (fun (z27 : Int32 × eb_St) => (z27.1, z27.2)) (m_X10_sets (eb_pI (eb_pI (eb_pI (eb_pI (eb_pI (eb_pI z7.2 0 37 z9.toInt32) 0 38 ((z9.toInt32 >>> (7 &&& 31)) &&& 31)) 0 41 ((z9.toInt32 >>> (12 &&& 31)) &&& 7)) 0 39 ((z9.toInt32 >>> (15 &&& 31)) &&& 31)) 0 40 ((z9.toInt32 >>> (20 &&& 31)) &&& 31)) 0 42 (eb_iushr z9.toInt32 25)) ((z9.toInt32 &&& (-4096)).toInt64)) else if (z9.toInt32 &&& 127) = 59 then (fun (z29 : Int32 × eb_St) => (z29.1, z29.2)) (m_X10_registersW (eb_pI (eb_pI (eb_pI (eb_pI (eb_pI (eb_pI z7.2 0 37 z9.toInt32) 0 38 ((z9.toInt32 >>> (7 &&& 31)) &&& 31)) 0 41 ((z9.toInt32 >>> (12 &&& 31)) &&& 7)) 0 39 ((z9.toInt32 >>> (15 &&& 31)) &&& 31)) 0 40 ((z9.toInt32 >>> (20 &&& 31)) &&& 31)) 0 42 (eb_iushr z9.toInt32 25))) else if (z9.toInt32 &&& 127) = 99 then (fun (z31 : Int32 × eb_St) => (z31.1, z31.2)) (m_X10_branches (eb_pI (eb_pI (eb_pI (eb_pI (eb_pI (eb_pI z7.2 0 37 z9.toInt32) 0 38 ((z9.toInt32 >>> (7 &&& 31)) &&& 31)) 0 41 ((z9.toInt32 >>> (12 &&& 31)) &&& 7)) 0 39 ((z9.toInt32 >>> (15 &&& 31)) &&& 31)) 0 40 ((z9.toInt32 >>> (20 &&& 31)) &&& 31)) 0 42 (eb_iushr z9.toInt32 25)) x2) else if (z9.toInt32 &&& 127) = 103 then (if ((z9.toInt32 >>> (12 &&& 31)) &&& 7) = 0 then (fun (z34 : Int64) => (fun (z35 : Int32 × eb_St) => (z35.1, z35.2)) (m_X10_jumps (eb_pI (eb_pI (eb_pI (eb_pI (eb_pI (eb_pI z7.2 0 37 z9.toInt32) 0 38 ((z9.toInt32 >>> (7 &&& 31)) &&& 31)) 0 41 ((z9.toInt32 >>> (12 &&& 31)) &&& 7)) 0 39 ((z9.toInt32 >>> (15 &&& 31)) &&& 31)) 0 40 ((z9.toInt32 >>> (20 &&& 31)) &&& 31)) 0 42 (eb_iushr z9.toInt32 25)) ((z34 + ((z9.toInt32 >>> (20 &&& 31)).toInt64)) &&& (-2)) (x2 + 4))) (m_X10_x (eb_pI (eb_pI (eb_pI (eb_pI (eb_pI (eb_pI z7.2 0 37 z9.toInt32) 0 38 ((z9.toInt32 >>> (7 &&& 31)) &&& 31)) 0 41 ((z9.toInt32 >>> (12 &&& 31)) &&& 7)) 0 39 ((z9.toInt32 >>> (15 &&& 31)) &&& 31)) 0 40 ((z9.toInt32 >>> (20 &&& 31)) &&& 31)) 0 42 (eb_iushr z9.toInt32 25)) ((z9.toInt32 >>> (15 &&& 31)) &&& 31)) else (fun (z36 : Int32 × eb_St) => (z36.1, z36.2)) (m_X10_illegal (eb_pI (eb_pI (eb_pI (eb_pI (eb_pI (eb_pI z7.2 0 37 z9.toInt32) 0 38 ((z9.toInt32 >>> (7 &&& 31)) &&& 31)) 0 41 ((z9.toInt32 >>> (12 &&& 31)) &&& 7)) 0 39 ((z9.toInt32 >>> (15 &&& 31)) &&& 31)) 0 40 ((z9.toInt32 >>> (20 &&& 31)) &&& 31)) 0 42 (eb_iushr z9.toInt32 25)))) else if (z9.toInt32 &&& 127) = 111 then (fun (z38 : Int64) => (fun (z39 : Int32 × eb_St) => (z39.1, z39.2)) (m_X10_jumps (eb_pI (eb_pI (eb_pI (eb_pI (eb_pI (eb_pI z7.2 0 37 z9.toInt32) 0 38 ((z9.toInt32 >>> (7 &&& 31)) &&& 31)) 0 41 ((z9.toInt32 >>> (12 &&& 31)) &&& 7)) 0 39 ((z9.toInt32 >>> (15 &&& 31)) &&& 31)) 0 40 ((z9.toInt32 >>> (20 &&& 31)) &&& 31)) 0 42 (eb_iushr z9.toInt32 25)) (x2 + z38) (x2 + 4))) (m_X10_jump (eb_pI (eb_pI (eb_pI (eb_pI (eb_pI (eb_pI z7.2 0 37 z9.toInt32) 0 38 ((z9.toInt32 >>> (7 &&& 31)) &&& 31)) 0 41 ((z9.toInt32 >>> (12 &&& 31)) &&& 7)) 0 39 ((z9.toInt32 >>> (15 &&& 31)) &&& 31)) 0 40 ((z9.toInt32 >>> (20 &&& 31)) &&& 31)) 0 42 (eb_iushr z9.toInt32 25))) else if (z9.toInt32 &&& 127) = 115 then (fun (z41 : Int32 × eb_St) => (z41.1, z41.2)) (m_X10_system (eb_pI (eb_pI (eb_pI (eb_pI (eb_pI (eb_pI z7.2 0 37 z9.toInt32) 0 38 ((z9.toInt32 >>> (7 &&& 31)) &&& 31)) 0 41 ((z9.toInt32 >>> (12 &&& 31)) &&& 7)) 0 39 ((z9.toInt32 >>> (15 &&& 31)) &&& 31)) 0 40 ((z9.toInt32 >>> (20 &&& 31)) &&& 31)) 0 42 (eb_iushr z9.toInt32 25)) x2) else (fun (z42 : Int32 × eb_St) => (z42.1, z42.2)) (m_X10_illegal (eb_pI (eb_pI (eb_pI (eb_pI (eb_pI (eb_pI z7.2 0 37 z9.toInt32) 0 38 ((z9.toInt32 >>> (7 &&& 31)) &&& 31)) 0 41 ((z9.toInt32 >>> (12 &&& 31)) &&& 7)) 0 39 ((z9.toInt32 >>> (15 &&& 31)) &&& 31)) 0 40 ((z9.toInt32 >>> (20 &&& 31)) &&& 31)) 0 42 (eb_iushr z9.toInt32 25))))) (m_X10_take z7.2 x2.toInt32 4))) (m_X10_lets σ x2.toInt32 4 4 (σ.1 0 4)))) (m_X10_isMemory x2 4) else (fun (z44 : Int32 × eb_St) => (z44.1, z44.2)) (m_X10_fault σ 0 x2))) (σ.2 3 z1.toNatClampNeg)) (m_X10_set σ) = mm := hm
  obtain ⟨z1, qz1⟩ : ∃ t : Int32, t = m_X10_set σ := ⟨_, rfl⟩
  have hm : (fun (x2 : Int64) => (if (x2 &&& 3) = 0 then (fun (z4 : Bool) => (if (eb_b z4) = 0 then (fun (z6 : Int32 × eb_St) => (z6.1, z6.2)) (m_X10_fault σ 1 x2) else (fun (z7 : Bool × eb_St) => (if (eb_b z7.1) = 0 then (fun (z43 : Int32 × eb_St) => (z43.1, z43.2)) (m_X10_fault z7.2 1 x2) else (fun (z9 : Int64) => (if (z9.toInt32 &&& 127) = 3 then (fun (z11 : Int32 × eb_St) => (z11.1, z11.2)) (m_X10_loads (eb_pI (eb_pI (eb_pI (eb_pI (eb_pI (eb_pI z7.2 0 37 z9.toInt32) 0 38 ((z9.toInt32 >>> (7 &&& 31)) &&& 31)) 0 41 ((z9.toInt32 >>> (12 &&& 31)) &&& 7)) 0 39 ((z9.toInt32 >>> (15 &&& 31)) &&& 31)) 0 40 ((z9.toInt32 >>> (20 &&& 31)) &&& 31)) 0 42 (eb_iushr z9.toInt32 25))) else if (z9.toInt32 &&& 127) = 15 then (if ((z9.toInt32 >>> (12 &&& 31)) &&& 7) ≤ 1 then (fun (z14 : Int32 × eb_St) => (z14.1, z14.2)) (m_X10_goesOn (eb_pI (eb_pI (eb_pI (eb_pI (eb_pI (eb_pI z7.2 0 37 z9.toInt32) 0 38 ((z9.toInt32 >>> (7 &&& 31)) &&& 31)) 0 41 ((z9.toInt32 >>> (12 &&& 31)) &&& 7)) 0 39 ((z9.toInt32 >>> (15 &&& 31)) &&& 31)) 0 40 ((z9.toInt32 >>> (20 &&& 31)) &&& 31)) 0 42 (eb_iushr z9.toInt32 25))) else (fun (z15 : Int32 × eb_St) => (z15.1, z15.2)) (m_X10_illegal (eb_pI (eb_pI (eb_pI (eb_pI (eb_pI (eb_pI z7.2 0 37 z9.toInt32) 0 38 ((z9.toInt32 >>> (7 &&& 31)) &&& 31)) 0 41 ((z9.toInt32 >>> (12 &&& 31)) &&& 7)) 0 39 ((z9.toInt32 >>> (15 &&& 31)) &&& 31)) 0 40 ((z9.toInt32 >>> (20 &&& 31)) &&& 31)) 0 42 (eb_iushr z9.toInt32 25)))) else if (z9.toInt32 &&& 127) = 19 then (fun (z17 : Int32 × eb_St) => (z17.1, z17.2)) (m_X10_immediate (eb_pI (eb_pI (eb_pI (eb_pI (eb_pI (eb_pI z7.2 0 37 z9.toInt32) 0 38 ((z9.toInt32 >>> (7 &&& 31)) &&& 31)) 0 41 ((z9.toInt32 >>> (12 &&& 31)) &&& 7)) 0 39 ((z9.toInt32 >>> (15 &&& 31)) &&& 31)) 0 40 ((z9.toInt32 >>> (20 &&& 31)) &&& 31)) 0 42 (eb_iushr z9.toInt32 25))) else if (z9.toInt32 &&& 127) = 23 then (fun (z19 : Int32 × eb_St) => (z19.1, z19.2)) (m_X10_sets (eb_pI (eb_pI (eb_pI (eb_pI (eb_pI (eb_pI z7.2 0 37 z9.toInt32) 0 38 ((z9.toInt32 >>> (7 &&& 31)) &&& 31)) 0 41 ((z9.toInt32 >>> (12 &&& 31)) &&& 7)) 0 39 ((z9.toInt32 >>> (15 &&& 31)) &&& 31)) 0 40 ((z9.toInt32 >>> (20 &&& 31)) &&& 31)) 0 42 (eb_iushr z9.toInt32 25)) (x2 + ((z9.toInt32 &&& (-4096)).toInt64))) else if (z9.toInt32 &&& 127) = 27 then (fun (z21 : Int32 × eb_St) => (z21.1, z21.2)) (m_X10_immediateW (eb_pI (eb_pI (eb_pI (eb_pI (eb_pI (eb_pI z7.2 0 37 z9.toInt32) 0 38 ((z9.toInt32 >>> (7 &&& 31)) &&& 31)) 0 41 ((z9.toInt32 >>> (12 &&& 31)) &&& 7)) 0 39 ((z9.toInt32 >>> (15 &&& 31)) &&& 31)) 0 40 ((z9.toInt32 >>> (20 &&& 31)) &&& 31)) 0 42 (eb_iushr z9.toInt32 25))) else if (z9.toInt32 &&& 127) = 35 then (fun (z23 : Int32 × eb_St) => (z23.1, z23.2)) (m_X10_stores (eb_pI (eb_pI (eb_pI (eb_pI (eb_pI (eb_pI z7.2 0 37 z9.toInt32) 0 38 ((z9.toInt32 >>> (7 &&& 31)) &&& 31)) 0 41 ((z9.toInt32 >>> (12 &&& 31)) &&& 7)) 0 39 ((z9.toInt32 >>> (15 &&& 31)) &&& 31)) 0 40 ((z9.toInt32 >>> (20 &&& 31)) &&& 31)) 0 42 (eb_iushr z9.toInt32 25))) else if (z9.toInt32 &&& 127) = 51 then (fun (z25 : Int32 × eb_St) => (z25.1, z25.2)) (m_X10_registers (eb_pI (eb_pI (eb_pI (eb_pI (eb_pI (eb_pI z7.2 0 37 z9.toInt32) 0 38 ((z9.toInt32 >>> (7 &&& 31)) &&& 31)) 0 41 ((z9.toInt32 >>> (12 &&& 31)) &&& 7)) 0 39 ((z9.toInt32 >>> (15 &&& 31)) &&& 31)) 0 40 ((z9.toInt32 >>> (20 &&& 31)) &&& 31)) 0 42 (eb_iushr z9.toInt32 25))) else if (z9.toInt32 &&& 127) = 55 then (fun (z27 : Int32 × eb_St) => (z27.1, z27.2)) (m_X10_sets (eb_pI (eb_pI (eb_pI (eb_pI (eb_pI (eb_pI z7.2 0 37 z9.toInt32) 0 38 ((z9.toInt32 >>> (7 &&& 31)) &&& 31)) 0 41 ((z9.toInt32 >>> (12 &&& 31)) &&& 7)) 0 39 ((z9.toInt32 >>> (15 &&& 31)) &&& 31)) 0 40 ((z9.toInt32 >>> (20 &&& 31)) &&& 31)) 0 42 (eb_iushr z9.toInt32 25)) ((z9.toInt32 &&& (-4096)).toInt64)) else if (z9.toInt32 &&& 127) = 59 then (fun (z29 : Int32 × eb_St) => (z29.1, z29.2)) (m_X10_registersW (eb_pI (eb_pI (eb_pI (eb_pI (eb_pI (eb_pI z7.2 0 37 z9.toInt32) 0 38 ((z9.toInt32 >>> (7 &&& 31)) &&& 31)) 0 41 ((z9.toInt32 >>> (12 &&& 31)) &&& 7)) 0 39 ((z9.toInt32 >>> (15 &&& 31)) &&& 31)) 0 40 ((z9.toInt32 >>> (20 &&& 31)) &&& 31)) 0 42 (eb_iushr z9.toInt32 25))) else if (z9.toInt32 &&& 127) = 99 then (fun (z31 : Int32 × eb_St) => (z31.1, z31.2)) (m_X10_branches (eb_pI (eb_pI (eb_pI (eb_pI (eb_pI (eb_pI z7.2 0 37 z9.toInt32) 0 38 ((z9.toInt32 >>> (7 &&& 31)) &&& 31)) 0 41 ((z9.toInt32 >>> (12 &&& 31)) &&& 7)) 0 39 ((z9.toInt32 >>> (15 &&& 31)) &&& 31)) 0 40 ((z9.toInt32 >>> (20 &&& 31)) &&& 31)) 0 42 (eb_iushr z9.toInt32 25)) x2) else if (z9.toInt32 &&& 127) = 103 then (if ((z9.toInt32 >>> (12 &&& 31)) &&& 7) = 0 then (fun (z34 : Int64) => (fun (z35 : Int32 × eb_St) => (z35.1, z35.2)) (m_X10_jumps (eb_pI (eb_pI (eb_pI (eb_pI (eb_pI (eb_pI z7.2 0 37 z9.toInt32) 0 38 ((z9.toInt32 >>> (7 &&& 31)) &&& 31)) 0 41 ((z9.toInt32 >>> (12 &&& 31)) &&& 7)) 0 39 ((z9.toInt32 >>> (15 &&& 31)) &&& 31)) 0 40 ((z9.toInt32 >>> (20 &&& 31)) &&& 31)) 0 42 (eb_iushr z9.toInt32 25)) ((z34 + ((z9.toInt32 >>> (20 &&& 31)).toInt64)) &&& (-2)) (x2 + 4))) (m_X10_x (eb_pI (eb_pI (eb_pI (eb_pI (eb_pI (eb_pI z7.2 0 37 z9.toInt32) 0 38 ((z9.toInt32 >>> (7 &&& 31)) &&& 31)) 0 41 ((z9.toInt32 >>> (12 &&& 31)) &&& 7)) 0 39 ((z9.toInt32 >>> (15 &&& 31)) &&& 31)) 0 40 ((z9.toInt32 >>> (20 &&& 31)) &&& 31)) 0 42 (eb_iushr z9.toInt32 25)) ((z9.toInt32 >>> (15 &&& 31)) &&& 31)) else (fun (z36 : Int32 × eb_St) => (z36.1, z36.2)) (m_X10_illegal (eb_pI (eb_pI (eb_pI (eb_pI (eb_pI (eb_pI z7.2 0 37 z9.toInt32) 0 38 ((z9.toInt32 >>> (7 &&& 31)) &&& 31)) 0 41 ((z9.toInt32 >>> (12 &&& 31)) &&& 7)) 0 39 ((z9.toInt32 >>> (15 &&& 31)) &&& 31)) 0 40 ((z9.toInt32 >>> (20 &&& 31)) &&& 31)) 0 42 (eb_iushr z9.toInt32 25)))) else if (z9.toInt32 &&& 127) = 111 then (fun (z38 : Int64) => (fun (z39 : Int32 × eb_St) => (z39.1, z39.2)) (m_X10_jumps (eb_pI (eb_pI (eb_pI (eb_pI (eb_pI (eb_pI z7.2 0 37 z9.toInt32) 0 38 ((z9.toInt32 >>> (7 &&& 31)) &&& 31)) 0 41 ((z9.toInt32 >>> (12 &&& 31)) &&& 7)) 0 39 ((z9.toInt32 >>> (15 &&& 31)) &&& 31)) 0 40 ((z9.toInt32 >>> (20 &&& 31)) &&& 31)) 0 42 (eb_iushr z9.toInt32 25)) (x2 + z38) (x2 + 4))) (m_X10_jump (eb_pI (eb_pI (eb_pI (eb_pI (eb_pI (eb_pI z7.2 0 37 z9.toInt32) 0 38 ((z9.toInt32 >>> (7 &&& 31)) &&& 31)) 0 41 ((z9.toInt32 >>> (12 &&& 31)) &&& 7)) 0 39 ((z9.toInt32 >>> (15 &&& 31)) &&& 31)) 0 40 ((z9.toInt32 >>> (20 &&& 31)) &&& 31)) 0 42 (eb_iushr z9.toInt32 25))) else if (z9.toInt32 &&& 127) = 115 then (fun (z41 : Int32 × eb_St) => (z41.1, z41.2)) (m_X10_system (eb_pI (eb_pI (eb_pI (eb_pI (eb_pI (eb_pI z7.2 0 37 z9.toInt32) 0 38 ((z9.toInt32 >>> (7 &&& 31)) &&& 31)) 0 41 ((z9.toInt32 >>> (12 &&& 31)) &&& 7)) 0 39 ((z9.toInt32 >>> (15 &&& 31)) &&& 31)) 0 40 ((z9.toInt32 >>> (20 &&& 31)) &&& 31)) 0 42 (eb_iushr z9.toInt32 25)) x2) else (fun (z42 : Int32 × eb_St) => (z42.1, z42.2)) (m_X10_illegal (eb_pI (eb_pI (eb_pI (eb_pI (eb_pI (eb_pI z7.2 0 37 z9.toInt32) 0 38 ((z9.toInt32 >>> (7 &&& 31)) &&& 31)) 0 41 ((z9.toInt32 >>> (12 &&& 31)) &&& 7)) 0 39 ((z9.toInt32 >>> (15 &&& 31)) &&& 31)) 0 40 ((z9.toInt32 >>> (20 &&& 31)) &&& 31)) 0 42 (eb_iushr z9.toInt32 25))))) (m_X10_take z7.2 x2.toInt32 4))) (m_X10_lets σ x2.toInt32 4 4 (σ.1 0 4)))) (m_X10_isMemory x2 4) else (fun (z44 : Int32 × eb_St) => (z44.1, z44.2)) (m_X10_fault σ 0 x2))) (σ.2 3 z1.toNatClampNeg) = mm := by rw [qz1]; exact hm
  obtain ⟨x2, ex2⟩ : ∃ z : Int64, z = σ.2 3 z1.toNatClampNeg := ⟨_, rfl⟩
  have hm : (if (x2 &&& 3) = 0 then (fun (z4 : Bool) => (if (eb_b z4) = 0 then (fun (z6 : Int32 × eb_St) => (z6.1, z6.2)) (m_X10_fault σ 1 x2) else (fun (z7 : Bool × eb_St) => (if (eb_b z7.1) = 0 then (fun (z43 : Int32 × eb_St) => (z43.1, z43.2)) (m_X10_fault z7.2 1 x2) else (fun (z9 : Int64) => (if (z9.toInt32 &&& 127) = 3 then (fun (z11 : Int32 × eb_St) => (z11.1, z11.2)) (m_X10_loads (eb_pI (eb_pI (eb_pI (eb_pI (eb_pI (eb_pI z7.2 0 37 z9.toInt32) 0 38 ((z9.toInt32 >>> (7 &&& 31)) &&& 31)) 0 41 ((z9.toInt32 >>> (12 &&& 31)) &&& 7)) 0 39 ((z9.toInt32 >>> (15 &&& 31)) &&& 31)) 0 40 ((z9.toInt32 >>> (20 &&& 31)) &&& 31)) 0 42 (eb_iushr z9.toInt32 25))) else if (z9.toInt32 &&& 127) = 15 then (if ((z9.toInt32 >>> (12 &&& 31)) &&& 7) ≤ 1 then (fun (z14 : Int32 × eb_St) => (z14.1, z14.2)) (m_X10_goesOn (eb_pI (eb_pI (eb_pI (eb_pI (eb_pI (eb_pI z7.2 0 37 z9.toInt32) 0 38 ((z9.toInt32 >>> (7 &&& 31)) &&& 31)) 0 41 ((z9.toInt32 >>> (12 &&& 31)) &&& 7)) 0 39 ((z9.toInt32 >>> (15 &&& 31)) &&& 31)) 0 40 ((z9.toInt32 >>> (20 &&& 31)) &&& 31)) 0 42 (eb_iushr z9.toInt32 25))) else (fun (z15 : Int32 × eb_St) => (z15.1, z15.2)) (m_X10_illegal (eb_pI (eb_pI (eb_pI (eb_pI (eb_pI (eb_pI z7.2 0 37 z9.toInt32) 0 38 ((z9.toInt32 >>> (7 &&& 31)) &&& 31)) 0 41 ((z9.toInt32 >>> (12 &&& 31)) &&& 7)) 0 39 ((z9.toInt32 >>> (15 &&& 31)) &&& 31)) 0 40 ((z9.toInt32 >>> (20 &&& 31)) &&& 31)) 0 42 (eb_iushr z9.toInt32 25)))) else if (z9.toInt32 &&& 127) = 19 then (fun (z17 : Int32 × eb_St) => (z17.1, z17.2)) (m_X10_immediate (eb_pI (eb_pI (eb_pI (eb_pI (eb_pI (eb_pI z7.2 0 37 z9.toInt32) 0 38 ((z9.toInt32 >>> (7 &&& 31)) &&& 31)) 0 41 ((z9.toInt32 >>> (12 &&& 31)) &&& 7)) 0 39 ((z9.toInt32 >>> (15 &&& 31)) &&& 31)) 0 40 ((z9.toInt32 >>> (20 &&& 31)) &&& 31)) 0 42 (eb_iushr z9.toInt32 25))) else if (z9.toInt32 &&& 127) = 23 then (fun (z19 : Int32 × eb_St) => (z19.1, z19.2)) (m_X10_sets (eb_pI (eb_pI (eb_pI (eb_pI (eb_pI (eb_pI z7.2 0 37 z9.toInt32) 0 38 ((z9.toInt32 >>> (7 &&& 31)) &&& 31)) 0 41 ((z9.toInt32 >>> (12 &&& 31)) &&& 7)) 0 39 ((z9.toInt32 >>> (15 &&& 31)) &&& 31)) 0 40 ((z9.toInt32 >>> (20 &&& 31)) &&& 31)) 0 42 (eb_iushr z9.toInt32 25)) (x2 + ((z9.toInt32 &&& (-4096)).toInt64))) else if (z9.toInt32 &&& 127) = 27 then (fun (z21 : Int32 × eb_St) => (z21.1, z21.2)) (m_X10_immediateW (eb_pI (eb_pI (eb_pI (eb_pI (eb_pI (eb_pI z7.2 0 37 z9.toInt32) 0 38 ((z9.toInt32 >>> (7 &&& 31)) &&& 31)) 0 41 ((z9.toInt32 >>> (12 &&& 31)) &&& 7)) 0 39 ((z9.toInt32 >>> (15 &&& 31)) &&& 31)) 0 40 ((z9.toInt32 >>> (20 &&& 31)) &&& 31)) 0 42 (eb_iushr z9.toInt32 25))) else if (z9.toInt32 &&& 127) = 35 then (fun (z23 : Int32 × eb_St) => (z23.1, z23.2)) (m_X10_stores (eb_pI (eb_pI (eb_pI (eb_pI (eb_pI (eb_pI z7.2 0 37 z9.toInt32) 0 38 ((z9.toInt32 >>> (7 &&& 31)) &&& 31)) 0 41 ((z9.toInt32 >>> (12 &&& 31)) &&& 7)) 0 39 ((z9.toInt32 >>> (15 &&& 31)) &&& 31)) 0 40 ((z9.toInt32 >>> (20 &&& 31)) &&& 31)) 0 42 (eb_iushr z9.toInt32 25))) else if (z9.toInt32 &&& 127) = 51 then (fun (z25 : Int32 × eb_St) => (z25.1, z25.2)) (m_X10_registers (eb_pI (eb_pI (eb_pI (eb_pI (eb_pI (eb_pI z7.2 0 37 z9.toInt32) 0 38 ((z9.toInt32 >>> (7 &&& 31)) &&& 31)) 0 41 ((z9.toInt32 >>> (12 &&& 31)) &&& 7)) 0 39 ((z9.toInt32 >>> (15 &&& 31)) &&& 31)) 0 40 ((z9.toInt32 >>> (20 &&& 31)) &&& 31)) 0 42 (eb_iushr z9.toInt32 25))) else if (z9.toInt32 &&& 127) = 55 then (fun (z27 : Int32 × eb_St) => (z27.1, z27.2)) (m_X10_sets (eb_pI (eb_pI (eb_pI (eb_pI (eb_pI (eb_pI z7.2 0 37 z9.toInt32) 0 38 ((z9.toInt32 >>> (7 &&& 31)) &&& 31)) 0 41 ((z9.toInt32 >>> (12 &&& 31)) &&& 7)) 0 39 ((z9.toInt32 >>> (15 &&& 31)) &&& 31)) 0 40 ((z9.toInt32 >>> (20 &&& 31)) &&& 31)) 0 42 (eb_iushr z9.toInt32 25)) ((z9.toInt32 &&& (-4096)).toInt64)) else if (z9.toInt32 &&& 127) = 59 then (fun (z29 : Int32 × eb_St) => (z29.1, z29.2)) (m_X10_registersW (eb_pI (eb_pI (eb_pI (eb_pI (eb_pI (eb_pI z7.2 0 37 z9.toInt32) 0 38 ((z9.toInt32 >>> (7 &&& 31)) &&& 31)) 0 41 ((z9.toInt32 >>> (12 &&& 31)) &&& 7)) 0 39 ((z9.toInt32 >>> (15 &&& 31)) &&& 31)) 0 40 ((z9.toInt32 >>> (20 &&& 31)) &&& 31)) 0 42 (eb_iushr z9.toInt32 25))) else if (z9.toInt32 &&& 127) = 99 then (fun (z31 : Int32 × eb_St) => (z31.1, z31.2)) (m_X10_branches (eb_pI (eb_pI (eb_pI (eb_pI (eb_pI (eb_pI z7.2 0 37 z9.toInt32) 0 38 ((z9.toInt32 >>> (7 &&& 31)) &&& 31)) 0 41 ((z9.toInt32 >>> (12 &&& 31)) &&& 7)) 0 39 ((z9.toInt32 >>> (15 &&& 31)) &&& 31)) 0 40 ((z9.toInt32 >>> (20 &&& 31)) &&& 31)) 0 42 (eb_iushr z9.toInt32 25)) x2) else if (z9.toInt32 &&& 127) = 103 then (if ((z9.toInt32 >>> (12 &&& 31)) &&& 7) = 0 then (fun (z34 : Int64) => (fun (z35 : Int32 × eb_St) => (z35.1, z35.2)) (m_X10_jumps (eb_pI (eb_pI (eb_pI (eb_pI (eb_pI (eb_pI z7.2 0 37 z9.toInt32) 0 38 ((z9.toInt32 >>> (7 &&& 31)) &&& 31)) 0 41 ((z9.toInt32 >>> (12 &&& 31)) &&& 7)) 0 39 ((z9.toInt32 >>> (15 &&& 31)) &&& 31)) 0 40 ((z9.toInt32 >>> (20 &&& 31)) &&& 31)) 0 42 (eb_iushr z9.toInt32 25)) ((z34 + ((z9.toInt32 >>> (20 &&& 31)).toInt64)) &&& (-2)) (x2 + 4))) (m_X10_x (eb_pI (eb_pI (eb_pI (eb_pI (eb_pI (eb_pI z7.2 0 37 z9.toInt32) 0 38 ((z9.toInt32 >>> (7 &&& 31)) &&& 31)) 0 41 ((z9.toInt32 >>> (12 &&& 31)) &&& 7)) 0 39 ((z9.toInt32 >>> (15 &&& 31)) &&& 31)) 0 40 ((z9.toInt32 >>> (20 &&& 31)) &&& 31)) 0 42 (eb_iushr z9.toInt32 25)) ((z9.toInt32 >>> (15 &&& 31)) &&& 31)) else (fun (z36 : Int32 × eb_St) => (z36.1, z36.2)) (m_X10_illegal (eb_pI (eb_pI (eb_pI (eb_pI (eb_pI (eb_pI z7.2 0 37 z9.toInt32) 0 38 ((z9.toInt32 >>> (7 &&& 31)) &&& 31)) 0 41 ((z9.toInt32 >>> (12 &&& 31)) &&& 7)) 0 39 ((z9.toInt32 >>> (15 &&& 31)) &&& 31)) 0 40 ((z9.toInt32 >>> (20 &&& 31)) &&& 31)) 0 42 (eb_iushr z9.toInt32 25)))) else if (z9.toInt32 &&& 127) = 111 then (fun (z38 : Int64) => (fun (z39 : Int32 × eb_St) => (z39.1, z39.2)) (m_X10_jumps (eb_pI (eb_pI (eb_pI (eb_pI (eb_pI (eb_pI z7.2 0 37 z9.toInt32) 0 38 ((z9.toInt32 >>> (7 &&& 31)) &&& 31)) 0 41 ((z9.toInt32 >>> (12 &&& 31)) &&& 7)) 0 39 ((z9.toInt32 >>> (15 &&& 31)) &&& 31)) 0 40 ((z9.toInt32 >>> (20 &&& 31)) &&& 31)) 0 42 (eb_iushr z9.toInt32 25)) (x2 + z38) (x2 + 4))) (m_X10_jump (eb_pI (eb_pI (eb_pI (eb_pI (eb_pI (eb_pI z7.2 0 37 z9.toInt32) 0 38 ((z9.toInt32 >>> (7 &&& 31)) &&& 31)) 0 41 ((z9.toInt32 >>> (12 &&& 31)) &&& 7)) 0 39 ((z9.toInt32 >>> (15 &&& 31)) &&& 31)) 0 40 ((z9.toInt32 >>> (20 &&& 31)) &&& 31)) 0 42 (eb_iushr z9.toInt32 25))) else if (z9.toInt32 &&& 127) = 115 then (fun (z41 : Int32 × eb_St) => (z41.1, z41.2)) (m_X10_system (eb_pI (eb_pI (eb_pI (eb_pI (eb_pI (eb_pI z7.2 0 37 z9.toInt32) 0 38 ((z9.toInt32 >>> (7 &&& 31)) &&& 31)) 0 41 ((z9.toInt32 >>> (12 &&& 31)) &&& 7)) 0 39 ((z9.toInt32 >>> (15 &&& 31)) &&& 31)) 0 40 ((z9.toInt32 >>> (20 &&& 31)) &&& 31)) 0 42 (eb_iushr z9.toInt32 25)) x2) else (fun (z42 : Int32 × eb_St) => (z42.1, z42.2)) (m_X10_illegal (eb_pI (eb_pI (eb_pI (eb_pI (eb_pI (eb_pI z7.2 0 37 z9.toInt32) 0 38 ((z9.toInt32 >>> (7 &&& 31)) &&& 31)) 0 41 ((z9.toInt32 >>> (12 &&& 31)) &&& 7)) 0 39 ((z9.toInt32 >>> (15 &&& 31)) &&& 31)) 0 40 ((z9.toInt32 >>> (20 &&& 31)) &&& 31)) 0 42 (eb_iushr z9.toInt32 25))))) (m_X10_take z7.2 x2.toInt32 4))) (m_X10_lets σ x2.toInt32 4 4 (σ.1 0 4)))) (m_X10_isMemory x2 4) else (fun (z44 : Int32 × eb_St) => (z44.1, z44.2)) (m_X10_fault σ 0 x2)) = mm := by rw [ex2]; exact hm
  refine eb_em (c := (x2 &&& 3) = 0) (fun h3 => ?_) (fun h3 => ?_)
  · have hm := (if_pos h3).symm.trans hm
    obtain ⟨z4, qz4⟩ : ∃ t : Bool, t = m_X10_isMemory x2 4 := ⟨_, rfl⟩
    have hm : (if (eb_b z4) = 0 then (fun (z6 : Int32 × eb_St) => (z6.1, z6.2)) (m_X10_fault σ 1 x2) else (fun (z7 : Bool × eb_St) => (if (eb_b z7.1) = 0 then (fun (z43 : Int32 × eb_St) => (z43.1, z43.2)) (m_X10_fault z7.2 1 x2) else (fun (z9 : Int64) => (if (z9.toInt32 &&& 127) = 3 then (fun (z11 : Int32 × eb_St) => (z11.1, z11.2)) (m_X10_loads (eb_pI (eb_pI (eb_pI (eb_pI (eb_pI (eb_pI z7.2 0 37 z9.toInt32) 0 38 ((z9.toInt32 >>> (7 &&& 31)) &&& 31)) 0 41 ((z9.toInt32 >>> (12 &&& 31)) &&& 7)) 0 39 ((z9.toInt32 >>> (15 &&& 31)) &&& 31)) 0 40 ((z9.toInt32 >>> (20 &&& 31)) &&& 31)) 0 42 (eb_iushr z9.toInt32 25))) else if (z9.toInt32 &&& 127) = 15 then (if ((z9.toInt32 >>> (12 &&& 31)) &&& 7) ≤ 1 then (fun (z14 : Int32 × eb_St) => (z14.1, z14.2)) (m_X10_goesOn (eb_pI (eb_pI (eb_pI (eb_pI (eb_pI (eb_pI z7.2 0 37 z9.toInt32) 0 38 ((z9.toInt32 >>> (7 &&& 31)) &&& 31)) 0 41 ((z9.toInt32 >>> (12 &&& 31)) &&& 7)) 0 39 ((z9.toInt32 >>> (15 &&& 31)) &&& 31)) 0 40 ((z9.toInt32 >>> (20 &&& 31)) &&& 31)) 0 42 (eb_iushr z9.toInt32 25))) else (fun (z15 : Int32 × eb_St) => (z15.1, z15.2)) (m_X10_illegal (eb_pI (eb_pI (eb_pI (eb_pI (eb_pI (eb_pI z7.2 0 37 z9.toInt32) 0 38 ((z9.toInt32 >>> (7 &&& 31)) &&& 31)) 0 41 ((z9.toInt32 >>> (12 &&& 31)) &&& 7)) 0 39 ((z9.toInt32 >>> (15 &&& 31)) &&& 31)) 0 40 ((z9.toInt32 >>> (20 &&& 31)) &&& 31)) 0 42 (eb_iushr z9.toInt32 25)))) else if (z9.toInt32 &&& 127) = 19 then (fun (z17 : Int32 × eb_St) => (z17.1, z17.2)) (m_X10_immediate (eb_pI (eb_pI (eb_pI (eb_pI (eb_pI (eb_pI z7.2 0 37 z9.toInt32) 0 38 ((z9.toInt32 >>> (7 &&& 31)) &&& 31)) 0 41 ((z9.toInt32 >>> (12 &&& 31)) &&& 7)) 0 39 ((z9.toInt32 >>> (15 &&& 31)) &&& 31)) 0 40 ((z9.toInt32 >>> (20 &&& 31)) &&& 31)) 0 42 (eb_iushr z9.toInt32 25))) else if (z9.toInt32 &&& 127) = 23 then (fun (z19 : Int32 × eb_St) => (z19.1, z19.2)) (m_X10_sets (eb_pI (eb_pI (eb_pI (eb_pI (eb_pI (eb_pI z7.2 0 37 z9.toInt32) 0 38 ((z9.toInt32 >>> (7 &&& 31)) &&& 31)) 0 41 ((z9.toInt32 >>> (12 &&& 31)) &&& 7)) 0 39 ((z9.toInt32 >>> (15 &&& 31)) &&& 31)) 0 40 ((z9.toInt32 >>> (20 &&& 31)) &&& 31)) 0 42 (eb_iushr z9.toInt32 25)) (x2 + ((z9.toInt32 &&& (-4096)).toInt64))) else if (z9.toInt32 &&& 127) = 27 then (fun (z21 : Int32 × eb_St) => (z21.1, z21.2)) (m_X10_immediateW (eb_pI (eb_pI (eb_pI (eb_pI (eb_pI (eb_pI z7.2 0 37 z9.toInt32) 0 38 ((z9.toInt32 >>> (7 &&& 31)) &&& 31)) 0 41 ((z9.toInt32 >>> (12 &&& 31)) &&& 7)) 0 39 ((z9.toInt32 >>> (15 &&& 31)) &&& 31)) 0 40 ((z9.toInt32 >>> (20 &&& 31)) &&& 31)) 0 42 (eb_iushr z9.toInt32 25))) else if (z9.toInt32 &&& 127) = 35 then (fun (z23 : Int32 × eb_St) => (z23.1, z23.2)) (m_X10_stores (eb_pI (eb_pI (eb_pI (eb_pI (eb_pI (eb_pI z7.2 0 37 z9.toInt32) 0 38 ((z9.toInt32 >>> (7 &&& 31)) &&& 31)) 0 41 ((z9.toInt32 >>> (12 &&& 31)) &&& 7)) 0 39 ((z9.toInt32 >>> (15 &&& 31)) &&& 31)) 0 40 ((z9.toInt32 >>> (20 &&& 31)) &&& 31)) 0 42 (eb_iushr z9.toInt32 25))) else if (z9.toInt32 &&& 127) = 51 then (fun (z25 : Int32 × eb_St) => (z25.1, z25.2)) (m_X10_registers (eb_pI (eb_pI (eb_pI (eb_pI (eb_pI (eb_pI z7.2 0 37 z9.toInt32) 0 38 ((z9.toInt32 >>> (7 &&& 31)) &&& 31)) 0 41 ((z9.toInt32 >>> (12 &&& 31)) &&& 7)) 0 39 ((z9.toInt32 >>> (15 &&& 31)) &&& 31)) 0 40 ((z9.toInt32 >>> (20 &&& 31)) &&& 31)) 0 42 (eb_iushr z9.toInt32 25))) else if (z9.toInt32 &&& 127) = 55 then (fun (z27 : Int32 × eb_St) => (z27.1, z27.2)) (m_X10_sets (eb_pI (eb_pI (eb_pI (eb_pI (eb_pI (eb_pI z7.2 0 37 z9.toInt32) 0 38 ((z9.toInt32 >>> (7 &&& 31)) &&& 31)) 0 41 ((z9.toInt32 >>> (12 &&& 31)) &&& 7)) 0 39 ((z9.toInt32 >>> (15 &&& 31)) &&& 31)) 0 40 ((z9.toInt32 >>> (20 &&& 31)) &&& 31)) 0 42 (eb_iushr z9.toInt32 25)) ((z9.toInt32 &&& (-4096)).toInt64)) else if (z9.toInt32 &&& 127) = 59 then (fun (z29 : Int32 × eb_St) => (z29.1, z29.2)) (m_X10_registersW (eb_pI (eb_pI (eb_pI (eb_pI (eb_pI (eb_pI z7.2 0 37 z9.toInt32) 0 38 ((z9.toInt32 >>> (7 &&& 31)) &&& 31)) 0 41 ((z9.toInt32 >>> (12 &&& 31)) &&& 7)) 0 39 ((z9.toInt32 >>> (15 &&& 31)) &&& 31)) 0 40 ((z9.toInt32 >>> (20 &&& 31)) &&& 31)) 0 42 (eb_iushr z9.toInt32 25))) else if (z9.toInt32 &&& 127) = 99 then (fun (z31 : Int32 × eb_St) => (z31.1, z31.2)) (m_X10_branches (eb_pI (eb_pI (eb_pI (eb_pI (eb_pI (eb_pI z7.2 0 37 z9.toInt32) 0 38 ((z9.toInt32 >>> (7 &&& 31)) &&& 31)) 0 41 ((z9.toInt32 >>> (12 &&& 31)) &&& 7)) 0 39 ((z9.toInt32 >>> (15 &&& 31)) &&& 31)) 0 40 ((z9.toInt32 >>> (20 &&& 31)) &&& 31)) 0 42 (eb_iushr z9.toInt32 25)) x2) else if (z9.toInt32 &&& 127) = 103 then (if ((z9.toInt32 >>> (12 &&& 31)) &&& 7) = 0 then (fun (z34 : Int64) => (fun (z35 : Int32 × eb_St) => (z35.1, z35.2)) (m_X10_jumps (eb_pI (eb_pI (eb_pI (eb_pI (eb_pI (eb_pI z7.2 0 37 z9.toInt32) 0 38 ((z9.toInt32 >>> (7 &&& 31)) &&& 31)) 0 41 ((z9.toInt32 >>> (12 &&& 31)) &&& 7)) 0 39 ((z9.toInt32 >>> (15 &&& 31)) &&& 31)) 0 40 ((z9.toInt32 >>> (20 &&& 31)) &&& 31)) 0 42 (eb_iushr z9.toInt32 25)) ((z34 + ((z9.toInt32 >>> (20 &&& 31)).toInt64)) &&& (-2)) (x2 + 4))) (m_X10_x (eb_pI (eb_pI (eb_pI (eb_pI (eb_pI (eb_pI z7.2 0 37 z9.toInt32) 0 38 ((z9.toInt32 >>> (7 &&& 31)) &&& 31)) 0 41 ((z9.toInt32 >>> (12 &&& 31)) &&& 7)) 0 39 ((z9.toInt32 >>> (15 &&& 31)) &&& 31)) 0 40 ((z9.toInt32 >>> (20 &&& 31)) &&& 31)) 0 42 (eb_iushr z9.toInt32 25)) ((z9.toInt32 >>> (15 &&& 31)) &&& 31)) else (fun (z36 : Int32 × eb_St) => (z36.1, z36.2)) (m_X10_illegal (eb_pI (eb_pI (eb_pI (eb_pI (eb_pI (eb_pI z7.2 0 37 z9.toInt32) 0 38 ((z9.toInt32 >>> (7 &&& 31)) &&& 31)) 0 41 ((z9.toInt32 >>> (12 &&& 31)) &&& 7)) 0 39 ((z9.toInt32 >>> (15 &&& 31)) &&& 31)) 0 40 ((z9.toInt32 >>> (20 &&& 31)) &&& 31)) 0 42 (eb_iushr z9.toInt32 25)))) else if (z9.toInt32 &&& 127) = 111 then (fun (z38 : Int64) => (fun (z39 : Int32 × eb_St) => (z39.1, z39.2)) (m_X10_jumps (eb_pI (eb_pI (eb_pI (eb_pI (eb_pI (eb_pI z7.2 0 37 z9.toInt32) 0 38 ((z9.toInt32 >>> (7 &&& 31)) &&& 31)) 0 41 ((z9.toInt32 >>> (12 &&& 31)) &&& 7)) 0 39 ((z9.toInt32 >>> (15 &&& 31)) &&& 31)) 0 40 ((z9.toInt32 >>> (20 &&& 31)) &&& 31)) 0 42 (eb_iushr z9.toInt32 25)) (x2 + z38) (x2 + 4))) (m_X10_jump (eb_pI (eb_pI (eb_pI (eb_pI (eb_pI (eb_pI z7.2 0 37 z9.toInt32) 0 38 ((z9.toInt32 >>> (7 &&& 31)) &&& 31)) 0 41 ((z9.toInt32 >>> (12 &&& 31)) &&& 7)) 0 39 ((z9.toInt32 >>> (15 &&& 31)) &&& 31)) 0 40 ((z9.toInt32 >>> (20 &&& 31)) &&& 31)) 0 42 (eb_iushr z9.toInt32 25))) else if (z9.toInt32 &&& 127) = 115 then (fun (z41 : Int32 × eb_St) => (z41.1, z41.2)) (m_X10_system (eb_pI (eb_pI (eb_pI (eb_pI (eb_pI (eb_pI z7.2 0 37 z9.toInt32) 0 38 ((z9.toInt32 >>> (7 &&& 31)) &&& 31)) 0 41 ((z9.toInt32 >>> (12 &&& 31)) &&& 7)) 0 39 ((z9.toInt32 >>> (15 &&& 31)) &&& 31)) 0 40 ((z9.toInt32 >>> (20 &&& 31)) &&& 31)) 0 42 (eb_iushr z9.toInt32 25)) x2) else (fun (z42 : Int32 × eb_St) => (z42.1, z42.2)) (m_X10_illegal (eb_pI (eb_pI (eb_pI (eb_pI (eb_pI (eb_pI z7.2 0 37 z9.toInt32) 0 38 ((z9.toInt32 >>> (7 &&& 31)) &&& 31)) 0 41 ((z9.toInt32 >>> (12 &&& 31)) &&& 7)) 0 39 ((z9.toInt32 >>> (15 &&& 31)) &&& 31)) 0 40 ((z9.toInt32 >>> (20 &&& 31)) &&& 31)) 0 42 (eb_iushr z9.toInt32 25))))) (m_X10_take z7.2 x2.toInt32 4))) (m_X10_lets σ x2.toInt32 4 4 (σ.1 0 4))) = mm := by rw [qz4]; exact hm
    refine eb_em (c := (eb_b z4) = 0) (fun h5 => ?_) (fun h5 => ?_)
    · have hm := (if_pos h5).symm.trans hm
      obtain ⟨z6, qz6⟩ : ∃ t : Int32 × eb_St, t = m_X10_fault σ 1 x2 := ⟨_, rfl⟩
      have hm : (z6.1, z6.2) = mm := by rw [qz6]; exact hm
      have jz6 : rJ z6.2 := J_X10_fault qz6.symm hj_
      subst hm
      exact jz6
    · have hm := (if_neg h5).symm.trans hm
      obtain ⟨z7, qz7⟩ : ∃ t : Bool × eb_St, t = m_X10_lets σ x2.toInt32 4 4 (σ.1 0 4) := ⟨_, rfl⟩
      have hm : (if (eb_b z7.1) = 0 then (fun (z43 : Int32 × eb_St) => (z43.1, z43.2)) (m_X10_fault z7.2 1 x2) else (fun (z9 : Int64) => (if (z9.toInt32 &&& 127) = 3 then (fun (z11 : Int32 × eb_St) => (z11.1, z11.2)) (m_X10_loads (eb_pI (eb_pI (eb_pI (eb_pI (eb_pI (eb_pI z7.2 0 37 z9.toInt32) 0 38 ((z9.toInt32 >>> (7 &&& 31)) &&& 31)) 0 41 ((z9.toInt32 >>> (12 &&& 31)) &&& 7)) 0 39 ((z9.toInt32 >>> (15 &&& 31)) &&& 31)) 0 40 ((z9.toInt32 >>> (20 &&& 31)) &&& 31)) 0 42 (eb_iushr z9.toInt32 25))) else if (z9.toInt32 &&& 127) = 15 then (if ((z9.toInt32 >>> (12 &&& 31)) &&& 7) ≤ 1 then (fun (z14 : Int32 × eb_St) => (z14.1, z14.2)) (m_X10_goesOn (eb_pI (eb_pI (eb_pI (eb_pI (eb_pI (eb_pI z7.2 0 37 z9.toInt32) 0 38 ((z9.toInt32 >>> (7 &&& 31)) &&& 31)) 0 41 ((z9.toInt32 >>> (12 &&& 31)) &&& 7)) 0 39 ((z9.toInt32 >>> (15 &&& 31)) &&& 31)) 0 40 ((z9.toInt32 >>> (20 &&& 31)) &&& 31)) 0 42 (eb_iushr z9.toInt32 25))) else (fun (z15 : Int32 × eb_St) => (z15.1, z15.2)) (m_X10_illegal (eb_pI (eb_pI (eb_pI (eb_pI (eb_pI (eb_pI z7.2 0 37 z9.toInt32) 0 38 ((z9.toInt32 >>> (7 &&& 31)) &&& 31)) 0 41 ((z9.toInt32 >>> (12 &&& 31)) &&& 7)) 0 39 ((z9.toInt32 >>> (15 &&& 31)) &&& 31)) 0 40 ((z9.toInt32 >>> (20 &&& 31)) &&& 31)) 0 42 (eb_iushr z9.toInt32 25)))) else if (z9.toInt32 &&& 127) = 19 then (fun (z17 : Int32 × eb_St) => (z17.1, z17.2)) (m_X10_immediate (eb_pI (eb_pI (eb_pI (eb_pI (eb_pI (eb_pI z7.2 0 37 z9.toInt32) 0 38 ((z9.toInt32 >>> (7 &&& 31)) &&& 31)) 0 41 ((z9.toInt32 >>> (12 &&& 31)) &&& 7)) 0 39 ((z9.toInt32 >>> (15 &&& 31)) &&& 31)) 0 40 ((z9.toInt32 >>> (20 &&& 31)) &&& 31)) 0 42 (eb_iushr z9.toInt32 25))) else if (z9.toInt32 &&& 127) = 23 then (fun (z19 : Int32 × eb_St) => (z19.1, z19.2)) (m_X10_sets (eb_pI (eb_pI (eb_pI (eb_pI (eb_pI (eb_pI z7.2 0 37 z9.toInt32) 0 38 ((z9.toInt32 >>> (7 &&& 31)) &&& 31)) 0 41 ((z9.toInt32 >>> (12 &&& 31)) &&& 7)) 0 39 ((z9.toInt32 >>> (15 &&& 31)) &&& 31)) 0 40 ((z9.toInt32 >>> (20 &&& 31)) &&& 31)) 0 42 (eb_iushr z9.toInt32 25)) (x2 + ((z9.toInt32 &&& (-4096)).toInt64))) else if (z9.toInt32 &&& 127) = 27 then (fun (z21 : Int32 × eb_St) => (z21.1, z21.2)) (m_X10_immediateW (eb_pI (eb_pI (eb_pI (eb_pI (eb_pI (eb_pI z7.2 0 37 z9.toInt32) 0 38 ((z9.toInt32 >>> (7 &&& 31)) &&& 31)) 0 41 ((z9.toInt32 >>> (12 &&& 31)) &&& 7)) 0 39 ((z9.toInt32 >>> (15 &&& 31)) &&& 31)) 0 40 ((z9.toInt32 >>> (20 &&& 31)) &&& 31)) 0 42 (eb_iushr z9.toInt32 25))) else if (z9.toInt32 &&& 127) = 35 then (fun (z23 : Int32 × eb_St) => (z23.1, z23.2)) (m_X10_stores (eb_pI (eb_pI (eb_pI (eb_pI (eb_pI (eb_pI z7.2 0 37 z9.toInt32) 0 38 ((z9.toInt32 >>> (7 &&& 31)) &&& 31)) 0 41 ((z9.toInt32 >>> (12 &&& 31)) &&& 7)) 0 39 ((z9.toInt32 >>> (15 &&& 31)) &&& 31)) 0 40 ((z9.toInt32 >>> (20 &&& 31)) &&& 31)) 0 42 (eb_iushr z9.toInt32 25))) else if (z9.toInt32 &&& 127) = 51 then (fun (z25 : Int32 × eb_St) => (z25.1, z25.2)) (m_X10_registers (eb_pI (eb_pI (eb_pI (eb_pI (eb_pI (eb_pI z7.2 0 37 z9.toInt32) 0 38 ((z9.toInt32 >>> (7 &&& 31)) &&& 31)) 0 41 ((z9.toInt32 >>> (12 &&& 31)) &&& 7)) 0 39 ((z9.toInt32 >>> (15 &&& 31)) &&& 31)) 0 40 ((z9.toInt32 >>> (20 &&& 31)) &&& 31)) 0 42 (eb_iushr z9.toInt32 25))) else if (z9.toInt32 &&& 127) = 55 then (fun (z27 : Int32 × eb_St) => (z27.1, z27.2)) (m_X10_sets (eb_pI (eb_pI (eb_pI (eb_pI (eb_pI (eb_pI z7.2 0 37 z9.toInt32) 0 38 ((z9.toInt32 >>> (7 &&& 31)) &&& 31)) 0 41 ((z9.toInt32 >>> (12 &&& 31)) &&& 7)) 0 39 ((z9.toInt32 >>> (15 &&& 31)) &&& 31)) 0 40 ((z9.toInt32 >>> (20 &&& 31)) &&& 31)) 0 42 (eb_iushr z9.toInt32 25)) ((z9.toInt32 &&& (-4096)).toInt64)) else if (z9.toInt32 &&& 127) = 59 then (fun (z29 : Int32 × eb_St) => (z29.1, z29.2)) (m_X10_registersW (eb_pI (eb_pI (eb_pI (eb_pI (eb_pI (eb_pI z7.2 0 37 z9.toInt32) 0 38 ((z9.toInt32 >>> (7 &&& 31)) &&& 31)) 0 41 ((z9.toInt32 >>> (12 &&& 31)) &&& 7)) 0 39 ((z9.toInt32 >>> (15 &&& 31)) &&& 31)) 0 40 ((z9.toInt32 >>> (20 &&& 31)) &&& 31)) 0 42 (eb_iushr z9.toInt32 25))) else if (z9.toInt32 &&& 127) = 99 then (fun (z31 : Int32 × eb_St) => (z31.1, z31.2)) (m_X10_branches (eb_pI (eb_pI (eb_pI (eb_pI (eb_pI (eb_pI z7.2 0 37 z9.toInt32) 0 38 ((z9.toInt32 >>> (7 &&& 31)) &&& 31)) 0 41 ((z9.toInt32 >>> (12 &&& 31)) &&& 7)) 0 39 ((z9.toInt32 >>> (15 &&& 31)) &&& 31)) 0 40 ((z9.toInt32 >>> (20 &&& 31)) &&& 31)) 0 42 (eb_iushr z9.toInt32 25)) x2) else if (z9.toInt32 &&& 127) = 103 then (if ((z9.toInt32 >>> (12 &&& 31)) &&& 7) = 0 then (fun (z34 : Int64) => (fun (z35 : Int32 × eb_St) => (z35.1, z35.2)) (m_X10_jumps (eb_pI (eb_pI (eb_pI (eb_pI (eb_pI (eb_pI z7.2 0 37 z9.toInt32) 0 38 ((z9.toInt32 >>> (7 &&& 31)) &&& 31)) 0 41 ((z9.toInt32 >>> (12 &&& 31)) &&& 7)) 0 39 ((z9.toInt32 >>> (15 &&& 31)) &&& 31)) 0 40 ((z9.toInt32 >>> (20 &&& 31)) &&& 31)) 0 42 (eb_iushr z9.toInt32 25)) ((z34 + ((z9.toInt32 >>> (20 &&& 31)).toInt64)) &&& (-2)) (x2 + 4))) (m_X10_x (eb_pI (eb_pI (eb_pI (eb_pI (eb_pI (eb_pI z7.2 0 37 z9.toInt32) 0 38 ((z9.toInt32 >>> (7 &&& 31)) &&& 31)) 0 41 ((z9.toInt32 >>> (12 &&& 31)) &&& 7)) 0 39 ((z9.toInt32 >>> (15 &&& 31)) &&& 31)) 0 40 ((z9.toInt32 >>> (20 &&& 31)) &&& 31)) 0 42 (eb_iushr z9.toInt32 25)) ((z9.toInt32 >>> (15 &&& 31)) &&& 31)) else (fun (z36 : Int32 × eb_St) => (z36.1, z36.2)) (m_X10_illegal (eb_pI (eb_pI (eb_pI (eb_pI (eb_pI (eb_pI z7.2 0 37 z9.toInt32) 0 38 ((z9.toInt32 >>> (7 &&& 31)) &&& 31)) 0 41 ((z9.toInt32 >>> (12 &&& 31)) &&& 7)) 0 39 ((z9.toInt32 >>> (15 &&& 31)) &&& 31)) 0 40 ((z9.toInt32 >>> (20 &&& 31)) &&& 31)) 0 42 (eb_iushr z9.toInt32 25)))) else if (z9.toInt32 &&& 127) = 111 then (fun (z38 : Int64) => (fun (z39 : Int32 × eb_St) => (z39.1, z39.2)) (m_X10_jumps (eb_pI (eb_pI (eb_pI (eb_pI (eb_pI (eb_pI z7.2 0 37 z9.toInt32) 0 38 ((z9.toInt32 >>> (7 &&& 31)) &&& 31)) 0 41 ((z9.toInt32 >>> (12 &&& 31)) &&& 7)) 0 39 ((z9.toInt32 >>> (15 &&& 31)) &&& 31)) 0 40 ((z9.toInt32 >>> (20 &&& 31)) &&& 31)) 0 42 (eb_iushr z9.toInt32 25)) (x2 + z38) (x2 + 4))) (m_X10_jump (eb_pI (eb_pI (eb_pI (eb_pI (eb_pI (eb_pI z7.2 0 37 z9.toInt32) 0 38 ((z9.toInt32 >>> (7 &&& 31)) &&& 31)) 0 41 ((z9.toInt32 >>> (12 &&& 31)) &&& 7)) 0 39 ((z9.toInt32 >>> (15 &&& 31)) &&& 31)) 0 40 ((z9.toInt32 >>> (20 &&& 31)) &&& 31)) 0 42 (eb_iushr z9.toInt32 25))) else if (z9.toInt32 &&& 127) = 115 then (fun (z41 : Int32 × eb_St) => (z41.1, z41.2)) (m_X10_system (eb_pI (eb_pI (eb_pI (eb_pI (eb_pI (eb_pI z7.2 0 37 z9.toInt32) 0 38 ((z9.toInt32 >>> (7 &&& 31)) &&& 31)) 0 41 ((z9.toInt32 >>> (12 &&& 31)) &&& 7)) 0 39 ((z9.toInt32 >>> (15 &&& 31)) &&& 31)) 0 40 ((z9.toInt32 >>> (20 &&& 31)) &&& 31)) 0 42 (eb_iushr z9.toInt32 25)) x2) else (fun (z42 : Int32 × eb_St) => (z42.1, z42.2)) (m_X10_illegal (eb_pI (eb_pI (eb_pI (eb_pI (eb_pI (eb_pI z7.2 0 37 z9.toInt32) 0 38 ((z9.toInt32 >>> (7 &&& 31)) &&& 31)) 0 41 ((z9.toInt32 >>> (12 &&& 31)) &&& 7)) 0 39 ((z9.toInt32 >>> (15 &&& 31)) &&& 31)) 0 40 ((z9.toInt32 >>> (20 &&& 31)) &&& 31)) 0 42 (eb_iushr z9.toInt32 25))))) (m_X10_take z7.2 x2.toInt32 4)) = mm := by rw [qz7]; exact hm
      have jz7 : rJ z7.2 := J_X10_lets qz7.symm hj_ hj_.2.2.2.2.2.1
      refine eb_emn (c := (eb_b z7.1) = 0) (fun h8 => ?_) (fun h8 => ?_)
      · have hm := (if_neg h8).symm.trans hm
        obtain ⟨z9, qz9⟩ : ∃ t : Int64, t = m_X10_take z7.2 x2.toInt32 4 := ⟨_, rfl⟩
        have hm : (if (z9.toInt32 &&& 127) = 3 then (fun (z11 : Int32 × eb_St) => (z11.1, z11.2)) (m_X10_loads (eb_pI (eb_pI (eb_pI (eb_pI (eb_pI (eb_pI z7.2 0 37 z9.toInt32) 0 38 ((z9.toInt32 >>> (7 &&& 31)) &&& 31)) 0 41 ((z9.toInt32 >>> (12 &&& 31)) &&& 7)) 0 39 ((z9.toInt32 >>> (15 &&& 31)) &&& 31)) 0 40 ((z9.toInt32 >>> (20 &&& 31)) &&& 31)) 0 42 (eb_iushr z9.toInt32 25))) else if (z9.toInt32 &&& 127) = 15 then (if ((z9.toInt32 >>> (12 &&& 31)) &&& 7) ≤ 1 then (fun (z14 : Int32 × eb_St) => (z14.1, z14.2)) (m_X10_goesOn (eb_pI (eb_pI (eb_pI (eb_pI (eb_pI (eb_pI z7.2 0 37 z9.toInt32) 0 38 ((z9.toInt32 >>> (7 &&& 31)) &&& 31)) 0 41 ((z9.toInt32 >>> (12 &&& 31)) &&& 7)) 0 39 ((z9.toInt32 >>> (15 &&& 31)) &&& 31)) 0 40 ((z9.toInt32 >>> (20 &&& 31)) &&& 31)) 0 42 (eb_iushr z9.toInt32 25))) else (fun (z15 : Int32 × eb_St) => (z15.1, z15.2)) (m_X10_illegal (eb_pI (eb_pI (eb_pI (eb_pI (eb_pI (eb_pI z7.2 0 37 z9.toInt32) 0 38 ((z9.toInt32 >>> (7 &&& 31)) &&& 31)) 0 41 ((z9.toInt32 >>> (12 &&& 31)) &&& 7)) 0 39 ((z9.toInt32 >>> (15 &&& 31)) &&& 31)) 0 40 ((z9.toInt32 >>> (20 &&& 31)) &&& 31)) 0 42 (eb_iushr z9.toInt32 25)))) else if (z9.toInt32 &&& 127) = 19 then (fun (z17 : Int32 × eb_St) => (z17.1, z17.2)) (m_X10_immediate (eb_pI (eb_pI (eb_pI (eb_pI (eb_pI (eb_pI z7.2 0 37 z9.toInt32) 0 38 ((z9.toInt32 >>> (7 &&& 31)) &&& 31)) 0 41 ((z9.toInt32 >>> (12 &&& 31)) &&& 7)) 0 39 ((z9.toInt32 >>> (15 &&& 31)) &&& 31)) 0 40 ((z9.toInt32 >>> (20 &&& 31)) &&& 31)) 0 42 (eb_iushr z9.toInt32 25))) else if (z9.toInt32 &&& 127) = 23 then (fun (z19 : Int32 × eb_St) => (z19.1, z19.2)) (m_X10_sets (eb_pI (eb_pI (eb_pI (eb_pI (eb_pI (eb_pI z7.2 0 37 z9.toInt32) 0 38 ((z9.toInt32 >>> (7 &&& 31)) &&& 31)) 0 41 ((z9.toInt32 >>> (12 &&& 31)) &&& 7)) 0 39 ((z9.toInt32 >>> (15 &&& 31)) &&& 31)) 0 40 ((z9.toInt32 >>> (20 &&& 31)) &&& 31)) 0 42 (eb_iushr z9.toInt32 25)) (x2 + ((z9.toInt32 &&& (-4096)).toInt64))) else if (z9.toInt32 &&& 127) = 27 then (fun (z21 : Int32 × eb_St) => (z21.1, z21.2)) (m_X10_immediateW (eb_pI (eb_pI (eb_pI (eb_pI (eb_pI (eb_pI z7.2 0 37 z9.toInt32) 0 38 ((z9.toInt32 >>> (7 &&& 31)) &&& 31)) 0 41 ((z9.toInt32 >>> (12 &&& 31)) &&& 7)) 0 39 ((z9.toInt32 >>> (15 &&& 31)) &&& 31)) 0 40 ((z9.toInt32 >>> (20 &&& 31)) &&& 31)) 0 42 (eb_iushr z9.toInt32 25))) else if (z9.toInt32 &&& 127) = 35 then (fun (z23 : Int32 × eb_St) => (z23.1, z23.2)) (m_X10_stores (eb_pI (eb_pI (eb_pI (eb_pI (eb_pI (eb_pI z7.2 0 37 z9.toInt32) 0 38 ((z9.toInt32 >>> (7 &&& 31)) &&& 31)) 0 41 ((z9.toInt32 >>> (12 &&& 31)) &&& 7)) 0 39 ((z9.toInt32 >>> (15 &&& 31)) &&& 31)) 0 40 ((z9.toInt32 >>> (20 &&& 31)) &&& 31)) 0 42 (eb_iushr z9.toInt32 25))) else if (z9.toInt32 &&& 127) = 51 then (fun (z25 : Int32 × eb_St) => (z25.1, z25.2)) (m_X10_registers (eb_pI (eb_pI (eb_pI (eb_pI (eb_pI (eb_pI z7.2 0 37 z9.toInt32) 0 38 ((z9.toInt32 >>> (7 &&& 31)) &&& 31)) 0 41 ((z9.toInt32 >>> (12 &&& 31)) &&& 7)) 0 39 ((z9.toInt32 >>> (15 &&& 31)) &&& 31)) 0 40 ((z9.toInt32 >>> (20 &&& 31)) &&& 31)) 0 42 (eb_iushr z9.toInt32 25))) else if (z9.toInt32 &&& 127) = 55 then (fun (z27 : Int32 × eb_St) => (z27.1, z27.2)) (m_X10_sets (eb_pI (eb_pI (eb_pI (eb_pI (eb_pI (eb_pI z7.2 0 37 z9.toInt32) 0 38 ((z9.toInt32 >>> (7 &&& 31)) &&& 31)) 0 41 ((z9.toInt32 >>> (12 &&& 31)) &&& 7)) 0 39 ((z9.toInt32 >>> (15 &&& 31)) &&& 31)) 0 40 ((z9.toInt32 >>> (20 &&& 31)) &&& 31)) 0 42 (eb_iushr z9.toInt32 25)) ((z9.toInt32 &&& (-4096)).toInt64)) else if (z9.toInt32 &&& 127) = 59 then (fun (z29 : Int32 × eb_St) => (z29.1, z29.2)) (m_X10_registersW (eb_pI (eb_pI (eb_pI (eb_pI (eb_pI (eb_pI z7.2 0 37 z9.toInt32) 0 38 ((z9.toInt32 >>> (7 &&& 31)) &&& 31)) 0 41 ((z9.toInt32 >>> (12 &&& 31)) &&& 7)) 0 39 ((z9.toInt32 >>> (15 &&& 31)) &&& 31)) 0 40 ((z9.toInt32 >>> (20 &&& 31)) &&& 31)) 0 42 (eb_iushr z9.toInt32 25))) else if (z9.toInt32 &&& 127) = 99 then (fun (z31 : Int32 × eb_St) => (z31.1, z31.2)) (m_X10_branches (eb_pI (eb_pI (eb_pI (eb_pI (eb_pI (eb_pI z7.2 0 37 z9.toInt32) 0 38 ((z9.toInt32 >>> (7 &&& 31)) &&& 31)) 0 41 ((z9.toInt32 >>> (12 &&& 31)) &&& 7)) 0 39 ((z9.toInt32 >>> (15 &&& 31)) &&& 31)) 0 40 ((z9.toInt32 >>> (20 &&& 31)) &&& 31)) 0 42 (eb_iushr z9.toInt32 25)) x2) else if (z9.toInt32 &&& 127) = 103 then (if ((z9.toInt32 >>> (12 &&& 31)) &&& 7) = 0 then (fun (z34 : Int64) => (fun (z35 : Int32 × eb_St) => (z35.1, z35.2)) (m_X10_jumps (eb_pI (eb_pI (eb_pI (eb_pI (eb_pI (eb_pI z7.2 0 37 z9.toInt32) 0 38 ((z9.toInt32 >>> (7 &&& 31)) &&& 31)) 0 41 ((z9.toInt32 >>> (12 &&& 31)) &&& 7)) 0 39 ((z9.toInt32 >>> (15 &&& 31)) &&& 31)) 0 40 ((z9.toInt32 >>> (20 &&& 31)) &&& 31)) 0 42 (eb_iushr z9.toInt32 25)) ((z34 + ((z9.toInt32 >>> (20 &&& 31)).toInt64)) &&& (-2)) (x2 + 4))) (m_X10_x (eb_pI (eb_pI (eb_pI (eb_pI (eb_pI (eb_pI z7.2 0 37 z9.toInt32) 0 38 ((z9.toInt32 >>> (7 &&& 31)) &&& 31)) 0 41 ((z9.toInt32 >>> (12 &&& 31)) &&& 7)) 0 39 ((z9.toInt32 >>> (15 &&& 31)) &&& 31)) 0 40 ((z9.toInt32 >>> (20 &&& 31)) &&& 31)) 0 42 (eb_iushr z9.toInt32 25)) ((z9.toInt32 >>> (15 &&& 31)) &&& 31)) else (fun (z36 : Int32 × eb_St) => (z36.1, z36.2)) (m_X10_illegal (eb_pI (eb_pI (eb_pI (eb_pI (eb_pI (eb_pI z7.2 0 37 z9.toInt32) 0 38 ((z9.toInt32 >>> (7 &&& 31)) &&& 31)) 0 41 ((z9.toInt32 >>> (12 &&& 31)) &&& 7)) 0 39 ((z9.toInt32 >>> (15 &&& 31)) &&& 31)) 0 40 ((z9.toInt32 >>> (20 &&& 31)) &&& 31)) 0 42 (eb_iushr z9.toInt32 25)))) else if (z9.toInt32 &&& 127) = 111 then (fun (z38 : Int64) => (fun (z39 : Int32 × eb_St) => (z39.1, z39.2)) (m_X10_jumps (eb_pI (eb_pI (eb_pI (eb_pI (eb_pI (eb_pI z7.2 0 37 z9.toInt32) 0 38 ((z9.toInt32 >>> (7 &&& 31)) &&& 31)) 0 41 ((z9.toInt32 >>> (12 &&& 31)) &&& 7)) 0 39 ((z9.toInt32 >>> (15 &&& 31)) &&& 31)) 0 40 ((z9.toInt32 >>> (20 &&& 31)) &&& 31)) 0 42 (eb_iushr z9.toInt32 25)) (x2 + z38) (x2 + 4))) (m_X10_jump (eb_pI (eb_pI (eb_pI (eb_pI (eb_pI (eb_pI z7.2 0 37 z9.toInt32) 0 38 ((z9.toInt32 >>> (7 &&& 31)) &&& 31)) 0 41 ((z9.toInt32 >>> (12 &&& 31)) &&& 7)) 0 39 ((z9.toInt32 >>> (15 &&& 31)) &&& 31)) 0 40 ((z9.toInt32 >>> (20 &&& 31)) &&& 31)) 0 42 (eb_iushr z9.toInt32 25))) else if (z9.toInt32 &&& 127) = 115 then (fun (z41 : Int32 × eb_St) => (z41.1, z41.2)) (m_X10_system (eb_pI (eb_pI (eb_pI (eb_pI (eb_pI (eb_pI z7.2 0 37 z9.toInt32) 0 38 ((z9.toInt32 >>> (7 &&& 31)) &&& 31)) 0 41 ((z9.toInt32 >>> (12 &&& 31)) &&& 7)) 0 39 ((z9.toInt32 >>> (15 &&& 31)) &&& 31)) 0 40 ((z9.toInt32 >>> (20 &&& 31)) &&& 31)) 0 42 (eb_iushr z9.toInt32 25)) x2) else (fun (z42 : Int32 × eb_St) => (z42.1, z42.2)) (m_X10_illegal (eb_pI (eb_pI (eb_pI (eb_pI (eb_pI (eb_pI z7.2 0 37 z9.toInt32) 0 38 ((z9.toInt32 >>> (7 &&& 31)) &&& 31)) 0 41 ((z9.toInt32 >>> (12 &&& 31)) &&& 7)) 0 39 ((z9.toInt32 >>> (15 &&& 31)) &&& 31)) 0 40 ((z9.toInt32 >>> (20 &&& 31)) &&& 31)) 0 42 (eb_iushr z9.toInt32 25)))) = mm := by rw [qz9]; exact hm
        by_cases h10 : (z9.toInt32 &&& 127) = 3
        · have hm := (if_pos h10).symm.trans hm
          obtain ⟨z11, qz11⟩ : ∃ t : Int32 × eb_St, t = m_X10_loads (eb_pI (eb_pI (eb_pI (eb_pI (eb_pI (eb_pI z7.2 0 37 z9.toInt32) 0 38 ((z9.toInt32 >>> (7 &&& 31)) &&& 31)) 0 41 ((z9.toInt32 >>> (12 &&& 31)) &&& 7)) 0 39 ((z9.toInt32 >>> (15 &&& 31)) &&& 31)) 0 40 ((z9.toInt32 >>> (20 &&& 31)) &&& 31)) 0 42 (eb_iushr z9.toInt32 25)) := ⟨_, rfl⟩
          have hm : (z11.1, z11.2) = mm := by rw [qz11]; exact hm
          have jz11 : rJ z11.2 := J_X10_loads qz11.symm (show rJ (eb_pI (eb_pI (eb_pI (eb_pI (eb_pI z7.2 0 37 z9.toInt32) 0 38 ((z9.toInt32 >>> (7 &&& 31)) &&& 31)) 0 41 ((z9.toInt32 >>> (12 &&& 31)) &&& 7)) 0 39 ((z9.toInt32 >>> (15 &&& 31)) &&& 31)) 0 40 ((z9.toInt32 >>> (20 &&& 31)) &&& 31)) from (rJ_s2 (show rJ (eb_pI (eb_pI (eb_pI (eb_pI z7.2 0 37 z9.toInt32) 0 38 ((z9.toInt32 >>> (7 &&& 31)) &&& 31)) 0 41 ((z9.toInt32 >>> (12 &&& 31)) &&& 7)) 0 39 ((z9.toInt32 >>> (15 &&& 31)) &&& 31)) from (rJ_s1 (show rJ (eb_pI (eb_pI (eb_pI z7.2 0 37 z9.toInt32) 0 38 ((z9.toInt32 >>> (7 &&& 31)) &&& 31)) 0 41 ((z9.toInt32 >>> (12 &&& 31)) &&& 7)) from (rJ_f3 (show rJ (eb_pI (eb_pI z7.2 0 37 z9.toInt32) 0 38 ((z9.toInt32 >>> (7 &&& 31)) &&& 31)) from (rJ_rd jz7 (pk_andIn _ 5 (by decide) (by decide)))) (pk_andIn _ 3 (by decide) (by decide)))) (pk_andIn _ 5 (by decide) (by decide)))) (pk_andIn _ 5 (by decide) (by decide))))
          subst hm
          exact jz11
        · have hm := (if_neg h10).symm.trans hm
          by_cases h12 : (z9.toInt32 &&& 127) = 15
          · have hm := (if_pos h12).symm.trans hm
            refine eb_em (c := ((z9.toInt32 >>> (12 &&& 31)) &&& 7) ≤ 1) (fun h13 => ?_) (fun h13 => ?_)
            · have hm := (if_pos h13).symm.trans hm
              obtain ⟨z14, qz14⟩ : ∃ t : Int32 × eb_St, t = m_X10_goesOn (eb_pI (eb_pI (eb_pI (eb_pI (eb_pI (eb_pI z7.2 0 37 z9.toInt32) 0 38 ((z9.toInt32 >>> (7 &&& 31)) &&& 31)) 0 41 ((z9.toInt32 >>> (12 &&& 31)) &&& 7)) 0 39 ((z9.toInt32 >>> (15 &&& 31)) &&& 31)) 0 40 ((z9.toInt32 >>> (20 &&& 31)) &&& 31)) 0 42 (eb_iushr z9.toInt32 25)) := ⟨_, rfl⟩
              have hm : (z14.1, z14.2) = mm := by rw [qz14]; exact hm
              have jz14 : rJ z14.2 := J_X10_goesOn qz14.symm (show rJ (eb_pI (eb_pI (eb_pI (eb_pI (eb_pI z7.2 0 37 z9.toInt32) 0 38 ((z9.toInt32 >>> (7 &&& 31)) &&& 31)) 0 41 ((z9.toInt32 >>> (12 &&& 31)) &&& 7)) 0 39 ((z9.toInt32 >>> (15 &&& 31)) &&& 31)) 0 40 ((z9.toInt32 >>> (20 &&& 31)) &&& 31)) from (rJ_s2 (show rJ (eb_pI (eb_pI (eb_pI (eb_pI z7.2 0 37 z9.toInt32) 0 38 ((z9.toInt32 >>> (7 &&& 31)) &&& 31)) 0 41 ((z9.toInt32 >>> (12 &&& 31)) &&& 7)) 0 39 ((z9.toInt32 >>> (15 &&& 31)) &&& 31)) from (rJ_s1 (show rJ (eb_pI (eb_pI (eb_pI z7.2 0 37 z9.toInt32) 0 38 ((z9.toInt32 >>> (7 &&& 31)) &&& 31)) 0 41 ((z9.toInt32 >>> (12 &&& 31)) &&& 7)) from (rJ_f3 (show rJ (eb_pI (eb_pI z7.2 0 37 z9.toInt32) 0 38 ((z9.toInt32 >>> (7 &&& 31)) &&& 31)) from (rJ_rd jz7 (pk_andIn _ 5 (by decide) (by decide)))) (pk_andIn _ 3 (by decide) (by decide)))) (pk_andIn _ 5 (by decide) (by decide)))) (pk_andIn _ 5 (by decide) (by decide))))
              subst hm
              exact jz14
            · have hm := (if_neg h13).symm.trans hm
              obtain ⟨z15, qz15⟩ : ∃ t : Int32 × eb_St, t = m_X10_illegal (eb_pI (eb_pI (eb_pI (eb_pI (eb_pI (eb_pI z7.2 0 37 z9.toInt32) 0 38 ((z9.toInt32 >>> (7 &&& 31)) &&& 31)) 0 41 ((z9.toInt32 >>> (12 &&& 31)) &&& 7)) 0 39 ((z9.toInt32 >>> (15 &&& 31)) &&& 31)) 0 40 ((z9.toInt32 >>> (20 &&& 31)) &&& 31)) 0 42 (eb_iushr z9.toInt32 25)) := ⟨_, rfl⟩
              have hm : (z15.1, z15.2) = mm := by rw [qz15]; exact hm
              have jz15 : rJ z15.2 := J_X10_illegal qz15.symm (show rJ (eb_pI (eb_pI (eb_pI (eb_pI (eb_pI z7.2 0 37 z9.toInt32) 0 38 ((z9.toInt32 >>> (7 &&& 31)) &&& 31)) 0 41 ((z9.toInt32 >>> (12 &&& 31)) &&& 7)) 0 39 ((z9.toInt32 >>> (15 &&& 31)) &&& 31)) 0 40 ((z9.toInt32 >>> (20 &&& 31)) &&& 31)) from (rJ_s2 (show rJ (eb_pI (eb_pI (eb_pI (eb_pI z7.2 0 37 z9.toInt32) 0 38 ((z9.toInt32 >>> (7 &&& 31)) &&& 31)) 0 41 ((z9.toInt32 >>> (12 &&& 31)) &&& 7)) 0 39 ((z9.toInt32 >>> (15 &&& 31)) &&& 31)) from (rJ_s1 (show rJ (eb_pI (eb_pI (eb_pI z7.2 0 37 z9.toInt32) 0 38 ((z9.toInt32 >>> (7 &&& 31)) &&& 31)) 0 41 ((z9.toInt32 >>> (12 &&& 31)) &&& 7)) from (rJ_f3 (show rJ (eb_pI (eb_pI z7.2 0 37 z9.toInt32) 0 38 ((z9.toInt32 >>> (7 &&& 31)) &&& 31)) from (rJ_rd jz7 (pk_andIn _ 5 (by decide) (by decide)))) (pk_andIn _ 3 (by decide) (by decide)))) (pk_andIn _ 5 (by decide) (by decide)))) (pk_andIn _ 5 (by decide) (by decide))))
              subst hm
              exact jz15
          · have hm := (if_neg h12).symm.trans hm
            by_cases h16 : (z9.toInt32 &&& 127) = 19
            · have hm := (if_pos h16).symm.trans hm
              obtain ⟨z17, qz17⟩ : ∃ t : Int32 × eb_St, t = m_X10_immediate (eb_pI (eb_pI (eb_pI (eb_pI (eb_pI (eb_pI z7.2 0 37 z9.toInt32) 0 38 ((z9.toInt32 >>> (7 &&& 31)) &&& 31)) 0 41 ((z9.toInt32 >>> (12 &&& 31)) &&& 7)) 0 39 ((z9.toInt32 >>> (15 &&& 31)) &&& 31)) 0 40 ((z9.toInt32 >>> (20 &&& 31)) &&& 31)) 0 42 (eb_iushr z9.toInt32 25)) := ⟨_, rfl⟩
              have hm : (z17.1, z17.2) = mm := by rw [qz17]; exact hm
              have jz17 : rJ z17.2 := J_X10_immediate qz17.symm (show rJ (eb_pI (eb_pI (eb_pI (eb_pI (eb_pI z7.2 0 37 z9.toInt32) 0 38 ((z9.toInt32 >>> (7 &&& 31)) &&& 31)) 0 41 ((z9.toInt32 >>> (12 &&& 31)) &&& 7)) 0 39 ((z9.toInt32 >>> (15 &&& 31)) &&& 31)) 0 40 ((z9.toInt32 >>> (20 &&& 31)) &&& 31)) from (rJ_s2 (show rJ (eb_pI (eb_pI (eb_pI (eb_pI z7.2 0 37 z9.toInt32) 0 38 ((z9.toInt32 >>> (7 &&& 31)) &&& 31)) 0 41 ((z9.toInt32 >>> (12 &&& 31)) &&& 7)) 0 39 ((z9.toInt32 >>> (15 &&& 31)) &&& 31)) from (rJ_s1 (show rJ (eb_pI (eb_pI (eb_pI z7.2 0 37 z9.toInt32) 0 38 ((z9.toInt32 >>> (7 &&& 31)) &&& 31)) 0 41 ((z9.toInt32 >>> (12 &&& 31)) &&& 7)) from (rJ_f3 (show rJ (eb_pI (eb_pI z7.2 0 37 z9.toInt32) 0 38 ((z9.toInt32 >>> (7 &&& 31)) &&& 31)) from (rJ_rd jz7 (pk_andIn _ 5 (by decide) (by decide)))) (pk_andIn _ 3 (by decide) (by decide)))) (pk_andIn _ 5 (by decide) (by decide)))) (pk_andIn _ 5 (by decide) (by decide))))
              subst hm
              exact jz17
            · have hm := (if_neg h16).symm.trans hm
              by_cases h18 : (z9.toInt32 &&& 127) = 23
              · have hm := (if_pos h18).symm.trans hm
                obtain ⟨z19, qz19⟩ : ∃ t : Int32 × eb_St, t = m_X10_sets (eb_pI (eb_pI (eb_pI (eb_pI (eb_pI (eb_pI z7.2 0 37 z9.toInt32) 0 38 ((z9.toInt32 >>> (7 &&& 31)) &&& 31)) 0 41 ((z9.toInt32 >>> (12 &&& 31)) &&& 7)) 0 39 ((z9.toInt32 >>> (15 &&& 31)) &&& 31)) 0 40 ((z9.toInt32 >>> (20 &&& 31)) &&& 31)) 0 42 (eb_iushr z9.toInt32 25)) (x2 + ((z9.toInt32 &&& (-4096)).toInt64)) := ⟨_, rfl⟩
                have hm : (z19.1, z19.2) = mm := by rw [qz19]; exact hm
                have jz19 : rJ z19.2 := J_X10_sets qz19.symm (show rJ (eb_pI (eb_pI (eb_pI (eb_pI (eb_pI z7.2 0 37 z9.toInt32) 0 38 ((z9.toInt32 >>> (7 &&& 31)) &&& 31)) 0 41 ((z9.toInt32 >>> (12 &&& 31)) &&& 7)) 0 39 ((z9.toInt32 >>> (15 &&& 31)) &&& 31)) 0 40 ((z9.toInt32 >>> (20 &&& 31)) &&& 31)) from (rJ_s2 (show rJ (eb_pI (eb_pI (eb_pI (eb_pI z7.2 0 37 z9.toInt32) 0 38 ((z9.toInt32 >>> (7 &&& 31)) &&& 31)) 0 41 ((z9.toInt32 >>> (12 &&& 31)) &&& 7)) 0 39 ((z9.toInt32 >>> (15 &&& 31)) &&& 31)) from (rJ_s1 (show rJ (eb_pI (eb_pI (eb_pI z7.2 0 37 z9.toInt32) 0 38 ((z9.toInt32 >>> (7 &&& 31)) &&& 31)) 0 41 ((z9.toInt32 >>> (12 &&& 31)) &&& 7)) from (rJ_f3 (show rJ (eb_pI (eb_pI z7.2 0 37 z9.toInt32) 0 38 ((z9.toInt32 >>> (7 &&& 31)) &&& 31)) from (rJ_rd jz7 (pk_andIn _ 5 (by decide) (by decide)))) (pk_andIn _ 3 (by decide) (by decide)))) (pk_andIn _ 5 (by decide) (by decide)))) (pk_andIn _ 5 (by decide) (by decide))))
                subst hm
                exact jz19
              · have hm := (if_neg h18).symm.trans hm
                by_cases h20 : (z9.toInt32 &&& 127) = 27
                · have hm := (if_pos h20).symm.trans hm
                  obtain ⟨z21, qz21⟩ : ∃ t : Int32 × eb_St, t = m_X10_immediateW (eb_pI (eb_pI (eb_pI (eb_pI (eb_pI (eb_pI z7.2 0 37 z9.toInt32) 0 38 ((z9.toInt32 >>> (7 &&& 31)) &&& 31)) 0 41 ((z9.toInt32 >>> (12 &&& 31)) &&& 7)) 0 39 ((z9.toInt32 >>> (15 &&& 31)) &&& 31)) 0 40 ((z9.toInt32 >>> (20 &&& 31)) &&& 31)) 0 42 (eb_iushr z9.toInt32 25)) := ⟨_, rfl⟩
                  have hm : (z21.1, z21.2) = mm := by rw [qz21]; exact hm
                  have jz21 : rJ z21.2 := J_X10_immediateW qz21.symm (show rJ (eb_pI (eb_pI (eb_pI (eb_pI (eb_pI z7.2 0 37 z9.toInt32) 0 38 ((z9.toInt32 >>> (7 &&& 31)) &&& 31)) 0 41 ((z9.toInt32 >>> (12 &&& 31)) &&& 7)) 0 39 ((z9.toInt32 >>> (15 &&& 31)) &&& 31)) 0 40 ((z9.toInt32 >>> (20 &&& 31)) &&& 31)) from (rJ_s2 (show rJ (eb_pI (eb_pI (eb_pI (eb_pI z7.2 0 37 z9.toInt32) 0 38 ((z9.toInt32 >>> (7 &&& 31)) &&& 31)) 0 41 ((z9.toInt32 >>> (12 &&& 31)) &&& 7)) 0 39 ((z9.toInt32 >>> (15 &&& 31)) &&& 31)) from (rJ_s1 (show rJ (eb_pI (eb_pI (eb_pI z7.2 0 37 z9.toInt32) 0 38 ((z9.toInt32 >>> (7 &&& 31)) &&& 31)) 0 41 ((z9.toInt32 >>> (12 &&& 31)) &&& 7)) from (rJ_f3 (show rJ (eb_pI (eb_pI z7.2 0 37 z9.toInt32) 0 38 ((z9.toInt32 >>> (7 &&& 31)) &&& 31)) from (rJ_rd jz7 (pk_andIn _ 5 (by decide) (by decide)))) (pk_andIn _ 3 (by decide) (by decide)))) (pk_andIn _ 5 (by decide) (by decide)))) (pk_andIn _ 5 (by decide) (by decide))))
                  subst hm
                  exact jz21
                · have hm := (if_neg h20).symm.trans hm
                  by_cases h22 : (z9.toInt32 &&& 127) = 35
                  · have hm := (if_pos h22).symm.trans hm
                    obtain ⟨z23, qz23⟩ : ∃ t : Int32 × eb_St, t = m_X10_stores (eb_pI (eb_pI (eb_pI (eb_pI (eb_pI (eb_pI z7.2 0 37 z9.toInt32) 0 38 ((z9.toInt32 >>> (7 &&& 31)) &&& 31)) 0 41 ((z9.toInt32 >>> (12 &&& 31)) &&& 7)) 0 39 ((z9.toInt32 >>> (15 &&& 31)) &&& 31)) 0 40 ((z9.toInt32 >>> (20 &&& 31)) &&& 31)) 0 42 (eb_iushr z9.toInt32 25)) := ⟨_, rfl⟩
                    have hm : (z23.1, z23.2) = mm := by rw [qz23]; exact hm
                    have jz23 : rJ z23.2 := J_X10_stores qz23.symm (show rJ (eb_pI (eb_pI (eb_pI (eb_pI (eb_pI z7.2 0 37 z9.toInt32) 0 38 ((z9.toInt32 >>> (7 &&& 31)) &&& 31)) 0 41 ((z9.toInt32 >>> (12 &&& 31)) &&& 7)) 0 39 ((z9.toInt32 >>> (15 &&& 31)) &&& 31)) 0 40 ((z9.toInt32 >>> (20 &&& 31)) &&& 31)) from (rJ_s2 (show rJ (eb_pI (eb_pI (eb_pI (eb_pI z7.2 0 37 z9.toInt32) 0 38 ((z9.toInt32 >>> (7 &&& 31)) &&& 31)) 0 41 ((z9.toInt32 >>> (12 &&& 31)) &&& 7)) 0 39 ((z9.toInt32 >>> (15 &&& 31)) &&& 31)) from (rJ_s1 (show rJ (eb_pI (eb_pI (eb_pI z7.2 0 37 z9.toInt32) 0 38 ((z9.toInt32 >>> (7 &&& 31)) &&& 31)) 0 41 ((z9.toInt32 >>> (12 &&& 31)) &&& 7)) from (rJ_f3 (show rJ (eb_pI (eb_pI z7.2 0 37 z9.toInt32) 0 38 ((z9.toInt32 >>> (7 &&& 31)) &&& 31)) from (rJ_rd jz7 (pk_andIn _ 5 (by decide) (by decide)))) (pk_andIn _ 3 (by decide) (by decide)))) (pk_andIn _ 5 (by decide) (by decide)))) (pk_andIn _ 5 (by decide) (by decide))))
                    subst hm
                    exact jz23
                  · have hm := (if_neg h22).symm.trans hm
                    by_cases h24 : (z9.toInt32 &&& 127) = 51
                    · have hm := (if_pos h24).symm.trans hm
                      obtain ⟨z25, qz25⟩ : ∃ t : Int32 × eb_St, t = m_X10_registers (eb_pI (eb_pI (eb_pI (eb_pI (eb_pI (eb_pI z7.2 0 37 z9.toInt32) 0 38 ((z9.toInt32 >>> (7 &&& 31)) &&& 31)) 0 41 ((z9.toInt32 >>> (12 &&& 31)) &&& 7)) 0 39 ((z9.toInt32 >>> (15 &&& 31)) &&& 31)) 0 40 ((z9.toInt32 >>> (20 &&& 31)) &&& 31)) 0 42 (eb_iushr z9.toInt32 25)) := ⟨_, rfl⟩
                      have hm : (z25.1, z25.2) = mm := by rw [qz25]; exact hm
                      have jz25 : rJ z25.2 := J_X10_registers qz25.symm (show rJ (eb_pI (eb_pI (eb_pI (eb_pI (eb_pI z7.2 0 37 z9.toInt32) 0 38 ((z9.toInt32 >>> (7 &&& 31)) &&& 31)) 0 41 ((z9.toInt32 >>> (12 &&& 31)) &&& 7)) 0 39 ((z9.toInt32 >>> (15 &&& 31)) &&& 31)) 0 40 ((z9.toInt32 >>> (20 &&& 31)) &&& 31)) from (rJ_s2 (show rJ (eb_pI (eb_pI (eb_pI (eb_pI z7.2 0 37 z9.toInt32) 0 38 ((z9.toInt32 >>> (7 &&& 31)) &&& 31)) 0 41 ((z9.toInt32 >>> (12 &&& 31)) &&& 7)) 0 39 ((z9.toInt32 >>> (15 &&& 31)) &&& 31)) from (rJ_s1 (show rJ (eb_pI (eb_pI (eb_pI z7.2 0 37 z9.toInt32) 0 38 ((z9.toInt32 >>> (7 &&& 31)) &&& 31)) 0 41 ((z9.toInt32 >>> (12 &&& 31)) &&& 7)) from (rJ_f3 (show rJ (eb_pI (eb_pI z7.2 0 37 z9.toInt32) 0 38 ((z9.toInt32 >>> (7 &&& 31)) &&& 31)) from (rJ_rd jz7 (pk_andIn _ 5 (by decide) (by decide)))) (pk_andIn _ 3 (by decide) (by decide)))) (pk_andIn _ 5 (by decide) (by decide)))) (pk_andIn _ 5 (by decide) (by decide))))
                      subst hm
                      exact jz25
                    · have hm := (if_neg h24).symm.trans hm
                      by_cases h26 : (z9.toInt32 &&& 127) = 55
                      · have hm := (if_pos h26).symm.trans hm
                        obtain ⟨z27, qz27⟩ : ∃ t : Int32 × eb_St, t = m_X10_sets (eb_pI (eb_pI (eb_pI (eb_pI (eb_pI (eb_pI z7.2 0 37 z9.toInt32) 0 38 ((z9.toInt32 >>> (7 &&& 31)) &&& 31)) 0 41 ((z9.toInt32 >>> (12 &&& 31)) &&& 7)) 0 39 ((z9.toInt32 >>> (15 &&& 31)) &&& 31)) 0 40 ((z9.toInt32 >>> (20 &&& 31)) &&& 31)) 0 42 (eb_iushr z9.toInt32 25)) ((z9.toInt32 &&& (-4096)).toInt64) := ⟨_, rfl⟩
                        have hm : (z27.1, z27.2) = mm := by rw [qz27]; exact hm
                        have jz27 : rJ z27.2 := J_X10_sets qz27.symm (show rJ (eb_pI (eb_pI (eb_pI (eb_pI (eb_pI z7.2 0 37 z9.toInt32) 0 38 ((z9.toInt32 >>> (7 &&& 31)) &&& 31)) 0 41 ((z9.toInt32 >>> (12 &&& 31)) &&& 7)) 0 39 ((z9.toInt32 >>> (15 &&& 31)) &&& 31)) 0 40 ((z9.toInt32 >>> (20 &&& 31)) &&& 31)) from (rJ_s2 (show rJ (eb_pI (eb_pI (eb_pI (eb_pI z7.2 0 37 z9.toInt32) 0 38 ((z9.toInt32 >>> (7 &&& 31)) &&& 31)) 0 41 ((z9.toInt32 >>> (12 &&& 31)) &&& 7)) 0 39 ((z9.toInt32 >>> (15 &&& 31)) &&& 31)) from (rJ_s1 (show rJ (eb_pI (eb_pI (eb_pI z7.2 0 37 z9.toInt32) 0 38 ((z9.toInt32 >>> (7 &&& 31)) &&& 31)) 0 41 ((z9.toInt32 >>> (12 &&& 31)) &&& 7)) from (rJ_f3 (show rJ (eb_pI (eb_pI z7.2 0 37 z9.toInt32) 0 38 ((z9.toInt32 >>> (7 &&& 31)) &&& 31)) from (rJ_rd jz7 (pk_andIn _ 5 (by decide) (by decide)))) (pk_andIn _ 3 (by decide) (by decide)))) (pk_andIn _ 5 (by decide) (by decide)))) (pk_andIn _ 5 (by decide) (by decide))))
                        subst hm
                        exact jz27
                      · have hm := (if_neg h26).symm.trans hm
                        by_cases h28 : (z9.toInt32 &&& 127) = 59
                        · have hm := (if_pos h28).symm.trans hm
                          obtain ⟨z29, qz29⟩ : ∃ t : Int32 × eb_St, t = m_X10_registersW (eb_pI (eb_pI (eb_pI (eb_pI (eb_pI (eb_pI z7.2 0 37 z9.toInt32) 0 38 ((z9.toInt32 >>> (7 &&& 31)) &&& 31)) 0 41 ((z9.toInt32 >>> (12 &&& 31)) &&& 7)) 0 39 ((z9.toInt32 >>> (15 &&& 31)) &&& 31)) 0 40 ((z9.toInt32 >>> (20 &&& 31)) &&& 31)) 0 42 (eb_iushr z9.toInt32 25)) := ⟨_, rfl⟩
                          have hm : (z29.1, z29.2) = mm := by rw [qz29]; exact hm
                          have jz29 : rJ z29.2 := J_X10_registersW qz29.symm (show rJ (eb_pI (eb_pI (eb_pI (eb_pI (eb_pI z7.2 0 37 z9.toInt32) 0 38 ((z9.toInt32 >>> (7 &&& 31)) &&& 31)) 0 41 ((z9.toInt32 >>> (12 &&& 31)) &&& 7)) 0 39 ((z9.toInt32 >>> (15 &&& 31)) &&& 31)) 0 40 ((z9.toInt32 >>> (20 &&& 31)) &&& 31)) from (rJ_s2 (show rJ (eb_pI (eb_pI (eb_pI (eb_pI z7.2 0 37 z9.toInt32) 0 38 ((z9.toInt32 >>> (7 &&& 31)) &&& 31)) 0 41 ((z9.toInt32 >>> (12 &&& 31)) &&& 7)) 0 39 ((z9.toInt32 >>> (15 &&& 31)) &&& 31)) from (rJ_s1 (show rJ (eb_pI (eb_pI (eb_pI z7.2 0 37 z9.toInt32) 0 38 ((z9.toInt32 >>> (7 &&& 31)) &&& 31)) 0 41 ((z9.toInt32 >>> (12 &&& 31)) &&& 7)) from (rJ_f3 (show rJ (eb_pI (eb_pI z7.2 0 37 z9.toInt32) 0 38 ((z9.toInt32 >>> (7 &&& 31)) &&& 31)) from (rJ_rd jz7 (pk_andIn _ 5 (by decide) (by decide)))) (pk_andIn _ 3 (by decide) (by decide)))) (pk_andIn _ 5 (by decide) (by decide)))) (pk_andIn _ 5 (by decide) (by decide))))
                          subst hm
                          exact jz29
                        · have hm := (if_neg h28).symm.trans hm
                          by_cases h30 : (z9.toInt32 &&& 127) = 99
                          · have hm := (if_pos h30).symm.trans hm
                            obtain ⟨z31, qz31⟩ : ∃ t : Int32 × eb_St, t = m_X10_branches (eb_pI (eb_pI (eb_pI (eb_pI (eb_pI (eb_pI z7.2 0 37 z9.toInt32) 0 38 ((z9.toInt32 >>> (7 &&& 31)) &&& 31)) 0 41 ((z9.toInt32 >>> (12 &&& 31)) &&& 7)) 0 39 ((z9.toInt32 >>> (15 &&& 31)) &&& 31)) 0 40 ((z9.toInt32 >>> (20 &&& 31)) &&& 31)) 0 42 (eb_iushr z9.toInt32 25)) x2 := ⟨_, rfl⟩
                            have hm : (z31.1, z31.2) = mm := by rw [qz31]; exact hm
                            have jz31 : rJ z31.2 := J_X10_branches qz31.symm (show rJ (eb_pI (eb_pI (eb_pI (eb_pI (eb_pI z7.2 0 37 z9.toInt32) 0 38 ((z9.toInt32 >>> (7 &&& 31)) &&& 31)) 0 41 ((z9.toInt32 >>> (12 &&& 31)) &&& 7)) 0 39 ((z9.toInt32 >>> (15 &&& 31)) &&& 31)) 0 40 ((z9.toInt32 >>> (20 &&& 31)) &&& 31)) from (rJ_s2 (show rJ (eb_pI (eb_pI (eb_pI (eb_pI z7.2 0 37 z9.toInt32) 0 38 ((z9.toInt32 >>> (7 &&& 31)) &&& 31)) 0 41 ((z9.toInt32 >>> (12 &&& 31)) &&& 7)) 0 39 ((z9.toInt32 >>> (15 &&& 31)) &&& 31)) from (rJ_s1 (show rJ (eb_pI (eb_pI (eb_pI z7.2 0 37 z9.toInt32) 0 38 ((z9.toInt32 >>> (7 &&& 31)) &&& 31)) 0 41 ((z9.toInt32 >>> (12 &&& 31)) &&& 7)) from (rJ_f3 (show rJ (eb_pI (eb_pI z7.2 0 37 z9.toInt32) 0 38 ((z9.toInt32 >>> (7 &&& 31)) &&& 31)) from (rJ_rd jz7 (pk_andIn _ 5 (by decide) (by decide)))) (pk_andIn _ 3 (by decide) (by decide)))) (pk_andIn _ 5 (by decide) (by decide)))) (pk_andIn _ 5 (by decide) (by decide))))
                            subst hm
                            exact jz31
                          · have hm := (if_neg h30).symm.trans hm
                            by_cases h32 : (z9.toInt32 &&& 127) = 103
                            · have hm := (if_pos h32).symm.trans hm
                              refine eb_em (c := ((z9.toInt32 >>> (12 &&& 31)) &&& 7) = 0) (fun h33 => ?_) (fun h33 => ?_)
                              · have hm := (if_pos h33).symm.trans hm
                                obtain ⟨z34, qz34⟩ : ∃ t : Int64, t = m_X10_x (eb_pI (eb_pI (eb_pI (eb_pI (eb_pI (eb_pI z7.2 0 37 z9.toInt32) 0 38 ((z9.toInt32 >>> (7 &&& 31)) &&& 31)) 0 41 ((z9.toInt32 >>> (12 &&& 31)) &&& 7)) 0 39 ((z9.toInt32 >>> (15 &&& 31)) &&& 31)) 0 40 ((z9.toInt32 >>> (20 &&& 31)) &&& 31)) 0 42 (eb_iushr z9.toInt32 25)) ((z9.toInt32 >>> (15 &&& 31)) &&& 31) := ⟨_, rfl⟩
                                have hm : (fun (z35 : Int32 × eb_St) => (z35.1, z35.2)) (m_X10_jumps (eb_pI (eb_pI (eb_pI (eb_pI (eb_pI (eb_pI z7.2 0 37 z9.toInt32) 0 38 ((z9.toInt32 >>> (7 &&& 31)) &&& 31)) 0 41 ((z9.toInt32 >>> (12 &&& 31)) &&& 7)) 0 39 ((z9.toInt32 >>> (15 &&& 31)) &&& 31)) 0 40 ((z9.toInt32 >>> (20 &&& 31)) &&& 31)) 0 42 (eb_iushr z9.toInt32 25)) ((z34 + ((z9.toInt32 >>> (20 &&& 31)).toInt64)) &&& (-2)) (x2 + 4)) = mm := by rw [qz34]; exact hm
                                obtain ⟨z35, qz35⟩ : ∃ t : Int32 × eb_St, t = m_X10_jumps (eb_pI (eb_pI (eb_pI (eb_pI (eb_pI (eb_pI z7.2 0 37 z9.toInt32) 0 38 ((z9.toInt32 >>> (7 &&& 31)) &&& 31)) 0 41 ((z9.toInt32 >>> (12 &&& 31)) &&& 7)) 0 39 ((z9.toInt32 >>> (15 &&& 31)) &&& 31)) 0 40 ((z9.toInt32 >>> (20 &&& 31)) &&& 31)) 0 42 (eb_iushr z9.toInt32 25)) ((z34 + ((z9.toInt32 >>> (20 &&& 31)).toInt64)) &&& (-2)) (x2 + 4) := ⟨_, rfl⟩
                                have hm : (z35.1, z35.2) = mm := by rw [qz35]; exact hm
                                have jz35 : rJ z35.2 := J_X10_jumps qz35.symm (show rJ (eb_pI (eb_pI (eb_pI (eb_pI (eb_pI z7.2 0 37 z9.toInt32) 0 38 ((z9.toInt32 >>> (7 &&& 31)) &&& 31)) 0 41 ((z9.toInt32 >>> (12 &&& 31)) &&& 7)) 0 39 ((z9.toInt32 >>> (15 &&& 31)) &&& 31)) 0 40 ((z9.toInt32 >>> (20 &&& 31)) &&& 31)) from (rJ_s2 (show rJ (eb_pI (eb_pI (eb_pI (eb_pI z7.2 0 37 z9.toInt32) 0 38 ((z9.toInt32 >>> (7 &&& 31)) &&& 31)) 0 41 ((z9.toInt32 >>> (12 &&& 31)) &&& 7)) 0 39 ((z9.toInt32 >>> (15 &&& 31)) &&& 31)) from (rJ_s1 (show rJ (eb_pI (eb_pI (eb_pI z7.2 0 37 z9.toInt32) 0 38 ((z9.toInt32 >>> (7 &&& 31)) &&& 31)) 0 41 ((z9.toInt32 >>> (12 &&& 31)) &&& 7)) from (rJ_f3 (show rJ (eb_pI (eb_pI z7.2 0 37 z9.toInt32) 0 38 ((z9.toInt32 >>> (7 &&& 31)) &&& 31)) from (rJ_rd jz7 (pk_andIn _ 5 (by decide) (by decide)))) (pk_andIn _ 3 (by decide) (by decide)))) (pk_andIn _ 5 (by decide) (by decide)))) (pk_andIn _ 5 (by decide) (by decide))))
                                subst hm
                                exact jz35
                              · have hm := (if_neg h33).symm.trans hm
                                obtain ⟨z36, qz36⟩ : ∃ t : Int32 × eb_St, t = m_X10_illegal (eb_pI (eb_pI (eb_pI (eb_pI (eb_pI (eb_pI z7.2 0 37 z9.toInt32) 0 38 ((z9.toInt32 >>> (7 &&& 31)) &&& 31)) 0 41 ((z9.toInt32 >>> (12 &&& 31)) &&& 7)) 0 39 ((z9.toInt32 >>> (15 &&& 31)) &&& 31)) 0 40 ((z9.toInt32 >>> (20 &&& 31)) &&& 31)) 0 42 (eb_iushr z9.toInt32 25)) := ⟨_, rfl⟩
                                have hm : (z36.1, z36.2) = mm := by rw [qz36]; exact hm
                                have jz36 : rJ z36.2 := J_X10_illegal qz36.symm (show rJ (eb_pI (eb_pI (eb_pI (eb_pI (eb_pI z7.2 0 37 z9.toInt32) 0 38 ((z9.toInt32 >>> (7 &&& 31)) &&& 31)) 0 41 ((z9.toInt32 >>> (12 &&& 31)) &&& 7)) 0 39 ((z9.toInt32 >>> (15 &&& 31)) &&& 31)) 0 40 ((z9.toInt32 >>> (20 &&& 31)) &&& 31)) from (rJ_s2 (show rJ (eb_pI (eb_pI (eb_pI (eb_pI z7.2 0 37 z9.toInt32) 0 38 ((z9.toInt32 >>> (7 &&& 31)) &&& 31)) 0 41 ((z9.toInt32 >>> (12 &&& 31)) &&& 7)) 0 39 ((z9.toInt32 >>> (15 &&& 31)) &&& 31)) from (rJ_s1 (show rJ (eb_pI (eb_pI (eb_pI z7.2 0 37 z9.toInt32) 0 38 ((z9.toInt32 >>> (7 &&& 31)) &&& 31)) 0 41 ((z9.toInt32 >>> (12 &&& 31)) &&& 7)) from (rJ_f3 (show rJ (eb_pI (eb_pI z7.2 0 37 z9.toInt32) 0 38 ((z9.toInt32 >>> (7 &&& 31)) &&& 31)) from (rJ_rd jz7 (pk_andIn _ 5 (by decide) (by decide)))) (pk_andIn _ 3 (by decide) (by decide)))) (pk_andIn _ 5 (by decide) (by decide)))) (pk_andIn _ 5 (by decide) (by decide))))
                                subst hm
                                exact jz36
                            · have hm := (if_neg h32).symm.trans hm
                              by_cases h37 : (z9.toInt32 &&& 127) = 111
                              · have hm := (if_pos h37).symm.trans hm
                                obtain ⟨z38, qz38⟩ : ∃ t : Int64, t = m_X10_jump (eb_pI (eb_pI (eb_pI (eb_pI (eb_pI (eb_pI z7.2 0 37 z9.toInt32) 0 38 ((z9.toInt32 >>> (7 &&& 31)) &&& 31)) 0 41 ((z9.toInt32 >>> (12 &&& 31)) &&& 7)) 0 39 ((z9.toInt32 >>> (15 &&& 31)) &&& 31)) 0 40 ((z9.toInt32 >>> (20 &&& 31)) &&& 31)) 0 42 (eb_iushr z9.toInt32 25)) := ⟨_, rfl⟩
                                have hm : (fun (z39 : Int32 × eb_St) => (z39.1, z39.2)) (m_X10_jumps (eb_pI (eb_pI (eb_pI (eb_pI (eb_pI (eb_pI z7.2 0 37 z9.toInt32) 0 38 ((z9.toInt32 >>> (7 &&& 31)) &&& 31)) 0 41 ((z9.toInt32 >>> (12 &&& 31)) &&& 7)) 0 39 ((z9.toInt32 >>> (15 &&& 31)) &&& 31)) 0 40 ((z9.toInt32 >>> (20 &&& 31)) &&& 31)) 0 42 (eb_iushr z9.toInt32 25)) (x2 + z38) (x2 + 4)) = mm := by rw [qz38]; exact hm
                                obtain ⟨z39, qz39⟩ : ∃ t : Int32 × eb_St, t = m_X10_jumps (eb_pI (eb_pI (eb_pI (eb_pI (eb_pI (eb_pI z7.2 0 37 z9.toInt32) 0 38 ((z9.toInt32 >>> (7 &&& 31)) &&& 31)) 0 41 ((z9.toInt32 >>> (12 &&& 31)) &&& 7)) 0 39 ((z9.toInt32 >>> (15 &&& 31)) &&& 31)) 0 40 ((z9.toInt32 >>> (20 &&& 31)) &&& 31)) 0 42 (eb_iushr z9.toInt32 25)) (x2 + z38) (x2 + 4) := ⟨_, rfl⟩
                                have hm : (z39.1, z39.2) = mm := by rw [qz39]; exact hm
                                have jz39 : rJ z39.2 := J_X10_jumps qz39.symm (show rJ (eb_pI (eb_pI (eb_pI (eb_pI (eb_pI z7.2 0 37 z9.toInt32) 0 38 ((z9.toInt32 >>> (7 &&& 31)) &&& 31)) 0 41 ((z9.toInt32 >>> (12 &&& 31)) &&& 7)) 0 39 ((z9.toInt32 >>> (15 &&& 31)) &&& 31)) 0 40 ((z9.toInt32 >>> (20 &&& 31)) &&& 31)) from (rJ_s2 (show rJ (eb_pI (eb_pI (eb_pI (eb_pI z7.2 0 37 z9.toInt32) 0 38 ((z9.toInt32 >>> (7 &&& 31)) &&& 31)) 0 41 ((z9.toInt32 >>> (12 &&& 31)) &&& 7)) 0 39 ((z9.toInt32 >>> (15 &&& 31)) &&& 31)) from (rJ_s1 (show rJ (eb_pI (eb_pI (eb_pI z7.2 0 37 z9.toInt32) 0 38 ((z9.toInt32 >>> (7 &&& 31)) &&& 31)) 0 41 ((z9.toInt32 >>> (12 &&& 31)) &&& 7)) from (rJ_f3 (show rJ (eb_pI (eb_pI z7.2 0 37 z9.toInt32) 0 38 ((z9.toInt32 >>> (7 &&& 31)) &&& 31)) from (rJ_rd jz7 (pk_andIn _ 5 (by decide) (by decide)))) (pk_andIn _ 3 (by decide) (by decide)))) (pk_andIn _ 5 (by decide) (by decide)))) (pk_andIn _ 5 (by decide) (by decide))))
                                subst hm
                                exact jz39
                              · have hm := (if_neg h37).symm.trans hm
                                by_cases h40 : (z9.toInt32 &&& 127) = 115
                                · have hm := (if_pos h40).symm.trans hm
                                  obtain ⟨z41, qz41⟩ : ∃ t : Int32 × eb_St, t = m_X10_system (eb_pI (eb_pI (eb_pI (eb_pI (eb_pI (eb_pI z7.2 0 37 z9.toInt32) 0 38 ((z9.toInt32 >>> (7 &&& 31)) &&& 31)) 0 41 ((z9.toInt32 >>> (12 &&& 31)) &&& 7)) 0 39 ((z9.toInt32 >>> (15 &&& 31)) &&& 31)) 0 40 ((z9.toInt32 >>> (20 &&& 31)) &&& 31)) 0 42 (eb_iushr z9.toInt32 25)) x2 := ⟨_, rfl⟩
                                  have hm : (z41.1, z41.2) = mm := by rw [qz41]; exact hm
                                  have jz41 : rJ z41.2 := J_X10_system qz41.symm (show rJ (eb_pI (eb_pI (eb_pI (eb_pI (eb_pI z7.2 0 37 z9.toInt32) 0 38 ((z9.toInt32 >>> (7 &&& 31)) &&& 31)) 0 41 ((z9.toInt32 >>> (12 &&& 31)) &&& 7)) 0 39 ((z9.toInt32 >>> (15 &&& 31)) &&& 31)) 0 40 ((z9.toInt32 >>> (20 &&& 31)) &&& 31)) from (rJ_s2 (show rJ (eb_pI (eb_pI (eb_pI (eb_pI z7.2 0 37 z9.toInt32) 0 38 ((z9.toInt32 >>> (7 &&& 31)) &&& 31)) 0 41 ((z9.toInt32 >>> (12 &&& 31)) &&& 7)) 0 39 ((z9.toInt32 >>> (15 &&& 31)) &&& 31)) from (rJ_s1 (show rJ (eb_pI (eb_pI (eb_pI z7.2 0 37 z9.toInt32) 0 38 ((z9.toInt32 >>> (7 &&& 31)) &&& 31)) 0 41 ((z9.toInt32 >>> (12 &&& 31)) &&& 7)) from (rJ_f3 (show rJ (eb_pI (eb_pI z7.2 0 37 z9.toInt32) 0 38 ((z9.toInt32 >>> (7 &&& 31)) &&& 31)) from (rJ_rd jz7 (pk_andIn _ 5 (by decide) (by decide)))) (pk_andIn _ 3 (by decide) (by decide)))) (pk_andIn _ 5 (by decide) (by decide)))) (pk_andIn _ 5 (by decide) (by decide))))
                                  subst hm
                                  exact jz41
                                · have hm := (if_neg h40).symm.trans hm
                                  obtain ⟨z42, qz42⟩ : ∃ t : Int32 × eb_St, t = m_X10_illegal (eb_pI (eb_pI (eb_pI (eb_pI (eb_pI (eb_pI z7.2 0 37 z9.toInt32) 0 38 ((z9.toInt32 >>> (7 &&& 31)) &&& 31)) 0 41 ((z9.toInt32 >>> (12 &&& 31)) &&& 7)) 0 39 ((z9.toInt32 >>> (15 &&& 31)) &&& 31)) 0 40 ((z9.toInt32 >>> (20 &&& 31)) &&& 31)) 0 42 (eb_iushr z9.toInt32 25)) := ⟨_, rfl⟩
                                  have hm : (z42.1, z42.2) = mm := by rw [qz42]; exact hm
                                  have jz42 : rJ z42.2 := J_X10_illegal qz42.symm (show rJ (eb_pI (eb_pI (eb_pI (eb_pI (eb_pI z7.2 0 37 z9.toInt32) 0 38 ((z9.toInt32 >>> (7 &&& 31)) &&& 31)) 0 41 ((z9.toInt32 >>> (12 &&& 31)) &&& 7)) 0 39 ((z9.toInt32 >>> (15 &&& 31)) &&& 31)) 0 40 ((z9.toInt32 >>> (20 &&& 31)) &&& 31)) from (rJ_s2 (show rJ (eb_pI (eb_pI (eb_pI (eb_pI z7.2 0 37 z9.toInt32) 0 38 ((z9.toInt32 >>> (7 &&& 31)) &&& 31)) 0 41 ((z9.toInt32 >>> (12 &&& 31)) &&& 7)) 0 39 ((z9.toInt32 >>> (15 &&& 31)) &&& 31)) from (rJ_s1 (show rJ (eb_pI (eb_pI (eb_pI z7.2 0 37 z9.toInt32) 0 38 ((z9.toInt32 >>> (7 &&& 31)) &&& 31)) 0 41 ((z9.toInt32 >>> (12 &&& 31)) &&& 7)) from (rJ_f3 (show rJ (eb_pI (eb_pI z7.2 0 37 z9.toInt32) 0 38 ((z9.toInt32 >>> (7 &&& 31)) &&& 31)) from (rJ_rd jz7 (pk_andIn _ 5 (by decide) (by decide)))) (pk_andIn _ 3 (by decide) (by decide)))) (pk_andIn _ 5 (by decide) (by decide)))) (pk_andIn _ 5 (by decide) (by decide))))
                                  subst hm
                                  exact jz42
      · have hm := (if_pos h8).symm.trans hm
        obtain ⟨z43, qz43⟩ : ∃ t : Int32 × eb_St, t = m_X10_fault z7.2 1 x2 := ⟨_, rfl⟩
        have hm : (z43.1, z43.2) = mm := by rw [qz43]; exact hm
        have jz43 : rJ z43.2 := J_X10_fault qz43.symm jz7
        subst hm
        exact jz43
  · have hm := (if_neg h3).symm.trans hm
    obtain ⟨z44, qz44⟩ : ∃ t : Int32 × eb_St, t = m_X10_fault σ 0 x2 := ⟨_, rfl⟩
    have hm : (z44.1, z44.2) = mm := by rw [qz44]; exact hm
    have jz44 : rJ z44.2 := J_X10_fault qz44.symm hj_
    subst hm
    exact jz44
set_option maxHeartbeats 4000000 in
set_option maxRecDepth 100000 in
theorem c_X10_instruction (l : Launch) (D : va_G) (cy : Nat → ClassId) (ad : Nat → Nat) (σ : eb_St)  (hj_ : rJ σ) : eb_M l yX10_instruction (Cond.code yX10_instruction cX10_instruction 3 (some .int) :: wsL_law) 9 228 D 18 cy rL ad σ [.ref (ad 0)] (some (.int (m_X10_instruction σ).1)) ((m_X10_instruction σ).2) := by
  refine eb_start (own := RX10) (by decide) rfl rfl (Nat.le_of_ble_eq_true rfl) ?_
  intro p e s m args below meth c A ls X hw hl
  have hl : lv_has ls 3 [(0, .ref (ad 0))] := hl
  have hx := X.1.1
  have hb := X.1.2.1
  have hown := X.1.2.2.2.1
  have hts := X.1.2.2.2.2
  generalize hm : m_X10_instruction σ = mm
  have hm : (fun (z1 : Int32) => (fun (x2 : Int64) => (if (x2 &&& 3) = 0 then (fun (z4 : Bool) => (if (eb_b z4) = 0 then (fun (z6 : Int32 × eb_St) => (z6.1, z6.2)) (m_X10_fault σ 1 x2) else (fun (z7 : Bool × eb_St) => (if (eb_b z7.1) = 0 then (fun (z43 : Int32 × eb_St) => (z43.1, z43.2)) (m_X10_fault z7.2 1 x2) else (fun (z9 : Int64) => (if (z9.toInt32 &&& 127) = 3 then (fun (z11 : Int32 × eb_St) => (z11.1, z11.2)) (m_X10_loads (eb_pI (eb_pI (eb_pI (eb_pI (eb_pI (eb_pI z7.2 0 37 z9.toInt32) 0 38 ((z9.toInt32 >>> (7 &&& 31)) &&& 31)) 0 41 ((z9.toInt32 >>> (12 &&& 31)) &&& 7)) 0 39 ((z9.toInt32 >>> (15 &&& 31)) &&& 31)) 0 40 ((z9.toInt32 >>> (20 &&& 31)) &&& 31)) 0 42 (eb_iushr z9.toInt32 25))) else if (z9.toInt32 &&& 127) = 15 then (if ((z9.toInt32 >>> (12 &&& 31)) &&& 7) ≤ 1 then (fun (z14 : Int32 × eb_St) => (z14.1, z14.2)) (m_X10_goesOn (eb_pI (eb_pI (eb_pI (eb_pI (eb_pI (eb_pI z7.2 0 37 z9.toInt32) 0 38 ((z9.toInt32 >>> (7 &&& 31)) &&& 31)) 0 41 ((z9.toInt32 >>> (12 &&& 31)) &&& 7)) 0 39 ((z9.toInt32 >>> (15 &&& 31)) &&& 31)) 0 40 ((z9.toInt32 >>> (20 &&& 31)) &&& 31)) 0 42 (eb_iushr z9.toInt32 25))) else (fun (z15 : Int32 × eb_St) => (z15.1, z15.2)) (m_X10_illegal (eb_pI (eb_pI (eb_pI (eb_pI (eb_pI (eb_pI z7.2 0 37 z9.toInt32) 0 38 ((z9.toInt32 >>> (7 &&& 31)) &&& 31)) 0 41 ((z9.toInt32 >>> (12 &&& 31)) &&& 7)) 0 39 ((z9.toInt32 >>> (15 &&& 31)) &&& 31)) 0 40 ((z9.toInt32 >>> (20 &&& 31)) &&& 31)) 0 42 (eb_iushr z9.toInt32 25)))) else if (z9.toInt32 &&& 127) = 19 then (fun (z17 : Int32 × eb_St) => (z17.1, z17.2)) (m_X10_immediate (eb_pI (eb_pI (eb_pI (eb_pI (eb_pI (eb_pI z7.2 0 37 z9.toInt32) 0 38 ((z9.toInt32 >>> (7 &&& 31)) &&& 31)) 0 41 ((z9.toInt32 >>> (12 &&& 31)) &&& 7)) 0 39 ((z9.toInt32 >>> (15 &&& 31)) &&& 31)) 0 40 ((z9.toInt32 >>> (20 &&& 31)) &&& 31)) 0 42 (eb_iushr z9.toInt32 25))) else if (z9.toInt32 &&& 127) = 23 then (fun (z19 : Int32 × eb_St) => (z19.1, z19.2)) (m_X10_sets (eb_pI (eb_pI (eb_pI (eb_pI (eb_pI (eb_pI z7.2 0 37 z9.toInt32) 0 38 ((z9.toInt32 >>> (7 &&& 31)) &&& 31)) 0 41 ((z9.toInt32 >>> (12 &&& 31)) &&& 7)) 0 39 ((z9.toInt32 >>> (15 &&& 31)) &&& 31)) 0 40 ((z9.toInt32 >>> (20 &&& 31)) &&& 31)) 0 42 (eb_iushr z9.toInt32 25)) (x2 + ((z9.toInt32 &&& (-4096)).toInt64))) else if (z9.toInt32 &&& 127) = 27 then (fun (z21 : Int32 × eb_St) => (z21.1, z21.2)) (m_X10_immediateW (eb_pI (eb_pI (eb_pI (eb_pI (eb_pI (eb_pI z7.2 0 37 z9.toInt32) 0 38 ((z9.toInt32 >>> (7 &&& 31)) &&& 31)) 0 41 ((z9.toInt32 >>> (12 &&& 31)) &&& 7)) 0 39 ((z9.toInt32 >>> (15 &&& 31)) &&& 31)) 0 40 ((z9.toInt32 >>> (20 &&& 31)) &&& 31)) 0 42 (eb_iushr z9.toInt32 25))) else if (z9.toInt32 &&& 127) = 35 then (fun (z23 : Int32 × eb_St) => (z23.1, z23.2)) (m_X10_stores (eb_pI (eb_pI (eb_pI (eb_pI (eb_pI (eb_pI z7.2 0 37 z9.toInt32) 0 38 ((z9.toInt32 >>> (7 &&& 31)) &&& 31)) 0 41 ((z9.toInt32 >>> (12 &&& 31)) &&& 7)) 0 39 ((z9.toInt32 >>> (15 &&& 31)) &&& 31)) 0 40 ((z9.toInt32 >>> (20 &&& 31)) &&& 31)) 0 42 (eb_iushr z9.toInt32 25))) else if (z9.toInt32 &&& 127) = 51 then (fun (z25 : Int32 × eb_St) => (z25.1, z25.2)) (m_X10_registers (eb_pI (eb_pI (eb_pI (eb_pI (eb_pI (eb_pI z7.2 0 37 z9.toInt32) 0 38 ((z9.toInt32 >>> (7 &&& 31)) &&& 31)) 0 41 ((z9.toInt32 >>> (12 &&& 31)) &&& 7)) 0 39 ((z9.toInt32 >>> (15 &&& 31)) &&& 31)) 0 40 ((z9.toInt32 >>> (20 &&& 31)) &&& 31)) 0 42 (eb_iushr z9.toInt32 25))) else if (z9.toInt32 &&& 127) = 55 then (fun (z27 : Int32 × eb_St) => (z27.1, z27.2)) (m_X10_sets (eb_pI (eb_pI (eb_pI (eb_pI (eb_pI (eb_pI z7.2 0 37 z9.toInt32) 0 38 ((z9.toInt32 >>> (7 &&& 31)) &&& 31)) 0 41 ((z9.toInt32 >>> (12 &&& 31)) &&& 7)) 0 39 ((z9.toInt32 >>> (15 &&& 31)) &&& 31)) 0 40 ((z9.toInt32 >>> (20 &&& 31)) &&& 31)) 0 42 (eb_iushr z9.toInt32 25)) ((z9.toInt32 &&& (-4096)).toInt64)) else if (z9.toInt32 &&& 127) = 59 then (fun (z29 : Int32 × eb_St) => (z29.1, z29.2)) (m_X10_registersW (eb_pI (eb_pI (eb_pI (eb_pI (eb_pI (eb_pI z7.2 0 37 z9.toInt32) 0 38 ((z9.toInt32 >>> (7 &&& 31)) &&& 31)) 0 41 ((z9.toInt32 >>> (12 &&& 31)) &&& 7)) 0 39 ((z9.toInt32 >>> (15 &&& 31)) &&& 31)) 0 40 ((z9.toInt32 >>> (20 &&& 31)) &&& 31)) 0 42 (eb_iushr z9.toInt32 25))) else if (z9.toInt32 &&& 127) = 99 then (fun (z31 : Int32 × eb_St) => (z31.1, z31.2)) (m_X10_branches (eb_pI (eb_pI (eb_pI (eb_pI (eb_pI (eb_pI z7.2 0 37 z9.toInt32) 0 38 ((z9.toInt32 >>> (7 &&& 31)) &&& 31)) 0 41 ((z9.toInt32 >>> (12 &&& 31)) &&& 7)) 0 39 ((z9.toInt32 >>> (15 &&& 31)) &&& 31)) 0 40 ((z9.toInt32 >>> (20 &&& 31)) &&& 31)) 0 42 (eb_iushr z9.toInt32 25)) x2) else if (z9.toInt32 &&& 127) = 103 then (if ((z9.toInt32 >>> (12 &&& 31)) &&& 7) = 0 then (fun (z34 : Int64) => (fun (z35 : Int32 × eb_St) => (z35.1, z35.2)) (m_X10_jumps (eb_pI (eb_pI (eb_pI (eb_pI (eb_pI (eb_pI z7.2 0 37 z9.toInt32) 0 38 ((z9.toInt32 >>> (7 &&& 31)) &&& 31)) 0 41 ((z9.toInt32 >>> (12 &&& 31)) &&& 7)) 0 39 ((z9.toInt32 >>> (15 &&& 31)) &&& 31)) 0 40 ((z9.toInt32 >>> (20 &&& 31)) &&& 31)) 0 42 (eb_iushr z9.toInt32 25)) ((z34 + ((z9.toInt32 >>> (20 &&& 31)).toInt64)) &&& (-2)) (x2 + 4))) (m_X10_x (eb_pI (eb_pI (eb_pI (eb_pI (eb_pI (eb_pI z7.2 0 37 z9.toInt32) 0 38 ((z9.toInt32 >>> (7 &&& 31)) &&& 31)) 0 41 ((z9.toInt32 >>> (12 &&& 31)) &&& 7)) 0 39 ((z9.toInt32 >>> (15 &&& 31)) &&& 31)) 0 40 ((z9.toInt32 >>> (20 &&& 31)) &&& 31)) 0 42 (eb_iushr z9.toInt32 25)) ((z9.toInt32 >>> (15 &&& 31)) &&& 31)) else (fun (z36 : Int32 × eb_St) => (z36.1, z36.2)) (m_X10_illegal (eb_pI (eb_pI (eb_pI (eb_pI (eb_pI (eb_pI z7.2 0 37 z9.toInt32) 0 38 ((z9.toInt32 >>> (7 &&& 31)) &&& 31)) 0 41 ((z9.toInt32 >>> (12 &&& 31)) &&& 7)) 0 39 ((z9.toInt32 >>> (15 &&& 31)) &&& 31)) 0 40 ((z9.toInt32 >>> (20 &&& 31)) &&& 31)) 0 42 (eb_iushr z9.toInt32 25)))) else if (z9.toInt32 &&& 127) = 111 then (fun (z38 : Int64) => (fun (z39 : Int32 × eb_St) => (z39.1, z39.2)) (m_X10_jumps (eb_pI (eb_pI (eb_pI (eb_pI (eb_pI (eb_pI z7.2 0 37 z9.toInt32) 0 38 ((z9.toInt32 >>> (7 &&& 31)) &&& 31)) 0 41 ((z9.toInt32 >>> (12 &&& 31)) &&& 7)) 0 39 ((z9.toInt32 >>> (15 &&& 31)) &&& 31)) 0 40 ((z9.toInt32 >>> (20 &&& 31)) &&& 31)) 0 42 (eb_iushr z9.toInt32 25)) (x2 + z38) (x2 + 4))) (m_X10_jump (eb_pI (eb_pI (eb_pI (eb_pI (eb_pI (eb_pI z7.2 0 37 z9.toInt32) 0 38 ((z9.toInt32 >>> (7 &&& 31)) &&& 31)) 0 41 ((z9.toInt32 >>> (12 &&& 31)) &&& 7)) 0 39 ((z9.toInt32 >>> (15 &&& 31)) &&& 31)) 0 40 ((z9.toInt32 >>> (20 &&& 31)) &&& 31)) 0 42 (eb_iushr z9.toInt32 25))) else if (z9.toInt32 &&& 127) = 115 then (fun (z41 : Int32 × eb_St) => (z41.1, z41.2)) (m_X10_system (eb_pI (eb_pI (eb_pI (eb_pI (eb_pI (eb_pI z7.2 0 37 z9.toInt32) 0 38 ((z9.toInt32 >>> (7 &&& 31)) &&& 31)) 0 41 ((z9.toInt32 >>> (12 &&& 31)) &&& 7)) 0 39 ((z9.toInt32 >>> (15 &&& 31)) &&& 31)) 0 40 ((z9.toInt32 >>> (20 &&& 31)) &&& 31)) 0 42 (eb_iushr z9.toInt32 25)) x2) else (fun (z42 : Int32 × eb_St) => (z42.1, z42.2)) (m_X10_illegal (eb_pI (eb_pI (eb_pI (eb_pI (eb_pI (eb_pI z7.2 0 37 z9.toInt32) 0 38 ((z9.toInt32 >>> (7 &&& 31)) &&& 31)) 0 41 ((z9.toInt32 >>> (12 &&& 31)) &&& 7)) 0 39 ((z9.toInt32 >>> (15 &&& 31)) &&& 31)) 0 40 ((z9.toInt32 >>> (20 &&& 31)) &&& 31)) 0 42 (eb_iushr z9.toInt32 25))))) (m_X10_take z7.2 x2.toInt32 4))) (m_X10_lets σ x2.toInt32 4 4 (σ.1 0 4)))) (m_X10_isMemory x2 4) else (fun (z44 : Int32 × eb_St) => (z44.1, z44.2)) (m_X10_fault σ 0 x2))) (σ.2 3 z1.toNatClampNeg)) (m_X10_set σ) = mm := hm
  refine lv_aload_n hx hb dX10_instruction_0 rfl (lv_at hl 0 rfl) ?_
  refine eb_get (T := TX10) X hw 0 3 (by decide) ⟨rfl, rfl, rfl⟩ (by decide) (fun _ h => List.mem_cons_of_mem _ (inlX10 _ h)) (List.mem_cons_of_mem _ wi_5_10) (v := .ref (ad 3)) rfl dX10_instruction_1 ?_
  refine lv_aload_n hx hb dX10_instruction_4 rfl (lv_at hl 0 rfl) ?_
  obtain ⟨z1, qz1⟩ : ∃ t : Int32, t = m_X10_set σ := ⟨_, rfl⟩
  have hm : (fun (x2 : Int64) => (if (x2 &&& 3) = 0 then (fun (z4 : Bool) => (if (eb_b z4) = 0 then (fun (z6 : Int32 × eb_St) => (z6.1, z6.2)) (m_X10_fault σ 1 x2) else (fun (z7 : Bool × eb_St) => (if (eb_b z7.1) = 0 then (fun (z43 : Int32 × eb_St) => (z43.1, z43.2)) (m_X10_fault z7.2 1 x2) else (fun (z9 : Int64) => (if (z9.toInt32 &&& 127) = 3 then (fun (z11 : Int32 × eb_St) => (z11.1, z11.2)) (m_X10_loads (eb_pI (eb_pI (eb_pI (eb_pI (eb_pI (eb_pI z7.2 0 37 z9.toInt32) 0 38 ((z9.toInt32 >>> (7 &&& 31)) &&& 31)) 0 41 ((z9.toInt32 >>> (12 &&& 31)) &&& 7)) 0 39 ((z9.toInt32 >>> (15 &&& 31)) &&& 31)) 0 40 ((z9.toInt32 >>> (20 &&& 31)) &&& 31)) 0 42 (eb_iushr z9.toInt32 25))) else if (z9.toInt32 &&& 127) = 15 then (if ((z9.toInt32 >>> (12 &&& 31)) &&& 7) ≤ 1 then (fun (z14 : Int32 × eb_St) => (z14.1, z14.2)) (m_X10_goesOn (eb_pI (eb_pI (eb_pI (eb_pI (eb_pI (eb_pI z7.2 0 37 z9.toInt32) 0 38 ((z9.toInt32 >>> (7 &&& 31)) &&& 31)) 0 41 ((z9.toInt32 >>> (12 &&& 31)) &&& 7)) 0 39 ((z9.toInt32 >>> (15 &&& 31)) &&& 31)) 0 40 ((z9.toInt32 >>> (20 &&& 31)) &&& 31)) 0 42 (eb_iushr z9.toInt32 25))) else (fun (z15 : Int32 × eb_St) => (z15.1, z15.2)) (m_X10_illegal (eb_pI (eb_pI (eb_pI (eb_pI (eb_pI (eb_pI z7.2 0 37 z9.toInt32) 0 38 ((z9.toInt32 >>> (7 &&& 31)) &&& 31)) 0 41 ((z9.toInt32 >>> (12 &&& 31)) &&& 7)) 0 39 ((z9.toInt32 >>> (15 &&& 31)) &&& 31)) 0 40 ((z9.toInt32 >>> (20 &&& 31)) &&& 31)) 0 42 (eb_iushr z9.toInt32 25)))) else if (z9.toInt32 &&& 127) = 19 then (fun (z17 : Int32 × eb_St) => (z17.1, z17.2)) (m_X10_immediate (eb_pI (eb_pI (eb_pI (eb_pI (eb_pI (eb_pI z7.2 0 37 z9.toInt32) 0 38 ((z9.toInt32 >>> (7 &&& 31)) &&& 31)) 0 41 ((z9.toInt32 >>> (12 &&& 31)) &&& 7)) 0 39 ((z9.toInt32 >>> (15 &&& 31)) &&& 31)) 0 40 ((z9.toInt32 >>> (20 &&& 31)) &&& 31)) 0 42 (eb_iushr z9.toInt32 25))) else if (z9.toInt32 &&& 127) = 23 then (fun (z19 : Int32 × eb_St) => (z19.1, z19.2)) (m_X10_sets (eb_pI (eb_pI (eb_pI (eb_pI (eb_pI (eb_pI z7.2 0 37 z9.toInt32) 0 38 ((z9.toInt32 >>> (7 &&& 31)) &&& 31)) 0 41 ((z9.toInt32 >>> (12 &&& 31)) &&& 7)) 0 39 ((z9.toInt32 >>> (15 &&& 31)) &&& 31)) 0 40 ((z9.toInt32 >>> (20 &&& 31)) &&& 31)) 0 42 (eb_iushr z9.toInt32 25)) (x2 + ((z9.toInt32 &&& (-4096)).toInt64))) else if (z9.toInt32 &&& 127) = 27 then (fun (z21 : Int32 × eb_St) => (z21.1, z21.2)) (m_X10_immediateW (eb_pI (eb_pI (eb_pI (eb_pI (eb_pI (eb_pI z7.2 0 37 z9.toInt32) 0 38 ((z9.toInt32 >>> (7 &&& 31)) &&& 31)) 0 41 ((z9.toInt32 >>> (12 &&& 31)) &&& 7)) 0 39 ((z9.toInt32 >>> (15 &&& 31)) &&& 31)) 0 40 ((z9.toInt32 >>> (20 &&& 31)) &&& 31)) 0 42 (eb_iushr z9.toInt32 25))) else if (z9.toInt32 &&& 127) = 35 then (fun (z23 : Int32 × eb_St) => (z23.1, z23.2)) (m_X10_stores (eb_pI (eb_pI (eb_pI (eb_pI (eb_pI (eb_pI z7.2 0 37 z9.toInt32) 0 38 ((z9.toInt32 >>> (7 &&& 31)) &&& 31)) 0 41 ((z9.toInt32 >>> (12 &&& 31)) &&& 7)) 0 39 ((z9.toInt32 >>> (15 &&& 31)) &&& 31)) 0 40 ((z9.toInt32 >>> (20 &&& 31)) &&& 31)) 0 42 (eb_iushr z9.toInt32 25))) else if (z9.toInt32 &&& 127) = 51 then (fun (z25 : Int32 × eb_St) => (z25.1, z25.2)) (m_X10_registers (eb_pI (eb_pI (eb_pI (eb_pI (eb_pI (eb_pI z7.2 0 37 z9.toInt32) 0 38 ((z9.toInt32 >>> (7 &&& 31)) &&& 31)) 0 41 ((z9.toInt32 >>> (12 &&& 31)) &&& 7)) 0 39 ((z9.toInt32 >>> (15 &&& 31)) &&& 31)) 0 40 ((z9.toInt32 >>> (20 &&& 31)) &&& 31)) 0 42 (eb_iushr z9.toInt32 25))) else if (z9.toInt32 &&& 127) = 55 then (fun (z27 : Int32 × eb_St) => (z27.1, z27.2)) (m_X10_sets (eb_pI (eb_pI (eb_pI (eb_pI (eb_pI (eb_pI z7.2 0 37 z9.toInt32) 0 38 ((z9.toInt32 >>> (7 &&& 31)) &&& 31)) 0 41 ((z9.toInt32 >>> (12 &&& 31)) &&& 7)) 0 39 ((z9.toInt32 >>> (15 &&& 31)) &&& 31)) 0 40 ((z9.toInt32 >>> (20 &&& 31)) &&& 31)) 0 42 (eb_iushr z9.toInt32 25)) ((z9.toInt32 &&& (-4096)).toInt64)) else if (z9.toInt32 &&& 127) = 59 then (fun (z29 : Int32 × eb_St) => (z29.1, z29.2)) (m_X10_registersW (eb_pI (eb_pI (eb_pI (eb_pI (eb_pI (eb_pI z7.2 0 37 z9.toInt32) 0 38 ((z9.toInt32 >>> (7 &&& 31)) &&& 31)) 0 41 ((z9.toInt32 >>> (12 &&& 31)) &&& 7)) 0 39 ((z9.toInt32 >>> (15 &&& 31)) &&& 31)) 0 40 ((z9.toInt32 >>> (20 &&& 31)) &&& 31)) 0 42 (eb_iushr z9.toInt32 25))) else if (z9.toInt32 &&& 127) = 99 then (fun (z31 : Int32 × eb_St) => (z31.1, z31.2)) (m_X10_branches (eb_pI (eb_pI (eb_pI (eb_pI (eb_pI (eb_pI z7.2 0 37 z9.toInt32) 0 38 ((z9.toInt32 >>> (7 &&& 31)) &&& 31)) 0 41 ((z9.toInt32 >>> (12 &&& 31)) &&& 7)) 0 39 ((z9.toInt32 >>> (15 &&& 31)) &&& 31)) 0 40 ((z9.toInt32 >>> (20 &&& 31)) &&& 31)) 0 42 (eb_iushr z9.toInt32 25)) x2) else if (z9.toInt32 &&& 127) = 103 then (if ((z9.toInt32 >>> (12 &&& 31)) &&& 7) = 0 then (fun (z34 : Int64) => (fun (z35 : Int32 × eb_St) => (z35.1, z35.2)) (m_X10_jumps (eb_pI (eb_pI (eb_pI (eb_pI (eb_pI (eb_pI z7.2 0 37 z9.toInt32) 0 38 ((z9.toInt32 >>> (7 &&& 31)) &&& 31)) 0 41 ((z9.toInt32 >>> (12 &&& 31)) &&& 7)) 0 39 ((z9.toInt32 >>> (15 &&& 31)) &&& 31)) 0 40 ((z9.toInt32 >>> (20 &&& 31)) &&& 31)) 0 42 (eb_iushr z9.toInt32 25)) ((z34 + ((z9.toInt32 >>> (20 &&& 31)).toInt64)) &&& (-2)) (x2 + 4))) (m_X10_x (eb_pI (eb_pI (eb_pI (eb_pI (eb_pI (eb_pI z7.2 0 37 z9.toInt32) 0 38 ((z9.toInt32 >>> (7 &&& 31)) &&& 31)) 0 41 ((z9.toInt32 >>> (12 &&& 31)) &&& 7)) 0 39 ((z9.toInt32 >>> (15 &&& 31)) &&& 31)) 0 40 ((z9.toInt32 >>> (20 &&& 31)) &&& 31)) 0 42 (eb_iushr z9.toInt32 25)) ((z9.toInt32 >>> (15 &&& 31)) &&& 31)) else (fun (z36 : Int32 × eb_St) => (z36.1, z36.2)) (m_X10_illegal (eb_pI (eb_pI (eb_pI (eb_pI (eb_pI (eb_pI z7.2 0 37 z9.toInt32) 0 38 ((z9.toInt32 >>> (7 &&& 31)) &&& 31)) 0 41 ((z9.toInt32 >>> (12 &&& 31)) &&& 7)) 0 39 ((z9.toInt32 >>> (15 &&& 31)) &&& 31)) 0 40 ((z9.toInt32 >>> (20 &&& 31)) &&& 31)) 0 42 (eb_iushr z9.toInt32 25)))) else if (z9.toInt32 &&& 127) = 111 then (fun (z38 : Int64) => (fun (z39 : Int32 × eb_St) => (z39.1, z39.2)) (m_X10_jumps (eb_pI (eb_pI (eb_pI (eb_pI (eb_pI (eb_pI z7.2 0 37 z9.toInt32) 0 38 ((z9.toInt32 >>> (7 &&& 31)) &&& 31)) 0 41 ((z9.toInt32 >>> (12 &&& 31)) &&& 7)) 0 39 ((z9.toInt32 >>> (15 &&& 31)) &&& 31)) 0 40 ((z9.toInt32 >>> (20 &&& 31)) &&& 31)) 0 42 (eb_iushr z9.toInt32 25)) (x2 + z38) (x2 + 4))) (m_X10_jump (eb_pI (eb_pI (eb_pI (eb_pI (eb_pI (eb_pI z7.2 0 37 z9.toInt32) 0 38 ((z9.toInt32 >>> (7 &&& 31)) &&& 31)) 0 41 ((z9.toInt32 >>> (12 &&& 31)) &&& 7)) 0 39 ((z9.toInt32 >>> (15 &&& 31)) &&& 31)) 0 40 ((z9.toInt32 >>> (20 &&& 31)) &&& 31)) 0 42 (eb_iushr z9.toInt32 25))) else if (z9.toInt32 &&& 127) = 115 then (fun (z41 : Int32 × eb_St) => (z41.1, z41.2)) (m_X10_system (eb_pI (eb_pI (eb_pI (eb_pI (eb_pI (eb_pI z7.2 0 37 z9.toInt32) 0 38 ((z9.toInt32 >>> (7 &&& 31)) &&& 31)) 0 41 ((z9.toInt32 >>> (12 &&& 31)) &&& 7)) 0 39 ((z9.toInt32 >>> (15 &&& 31)) &&& 31)) 0 40 ((z9.toInt32 >>> (20 &&& 31)) &&& 31)) 0 42 (eb_iushr z9.toInt32 25)) x2) else (fun (z42 : Int32 × eb_St) => (z42.1, z42.2)) (m_X10_illegal (eb_pI (eb_pI (eb_pI (eb_pI (eb_pI (eb_pI z7.2 0 37 z9.toInt32) 0 38 ((z9.toInt32 >>> (7 &&& 31)) &&& 31)) 0 41 ((z9.toInt32 >>> (12 &&& 31)) &&& 7)) 0 39 ((z9.toInt32 >>> (15 &&& 31)) &&& 31)) 0 40 ((z9.toInt32 >>> (20 &&& 31)) &&& 31)) 0 42 (eb_iushr z9.toInt32 25))))) (m_X10_take z7.2 x2.toInt32 4))) (m_X10_lets σ x2.toInt32 4 4 (σ.1 0 4)))) (m_X10_isMemory x2 4) else (fun (z44 : Int32 × eb_St) => (z44.1, z44.2)) (m_X10_fault σ 0 x2))) (σ.2 3 z1.toNatClampNeg) = mm := by rw [qz1]; exact hm
  have hc : eb_M l yX10_set (Cond.code yX10_set cX10_set 1 (some .int) :: wsL_law) 0 0 D 18 cy rL ad σ [.ref (ad 0)] (some (.int z1)) σ := by rw [qz1]; exact c_X10_set l D cy ad σ 
  refine eb_callV (n := 0) (as := []) (rest := [.ref (ad 3)]) X hw hl.1 0 hc (by decide) ⟨rfl, rfl, rfl⟩ (eb_goodV wi_30_16 wi_30_17 wi_30_18 wi_1_5 wi_30_19) rfl (by decide +kernel) ⟨by decide, by decide⟩ rfl rfl (Nat.le_of_ble_eq_true rfl) dX10_instruction_5 ⟨by decide, by decide⟩ (st' := [.int z1, .ref (ad 3)]) rfl (fun H locs hw => ?_)
  refine eb_lald (n := 7) X hw 3 (by decide) rfl rfl (by rw [qz1]; exact l_X10_set hj_) dX10_instruction_8 ?_
  refine lv_topl (fun x2 ex2 => ?_)
  have hm : (if (x2 &&& 3) = 0 then (fun (z4 : Bool) => (if (eb_b z4) = 0 then (fun (z6 : Int32 × eb_St) => (z6.1, z6.2)) (m_X10_fault σ 1 x2) else (fun (z7 : Bool × eb_St) => (if (eb_b z7.1) = 0 then (fun (z43 : Int32 × eb_St) => (z43.1, z43.2)) (m_X10_fault z7.2 1 x2) else (fun (z9 : Int64) => (if (z9.toInt32 &&& 127) = 3 then (fun (z11 : Int32 × eb_St) => (z11.1, z11.2)) (m_X10_loads (eb_pI (eb_pI (eb_pI (eb_pI (eb_pI (eb_pI z7.2 0 37 z9.toInt32) 0 38 ((z9.toInt32 >>> (7 &&& 31)) &&& 31)) 0 41 ((z9.toInt32 >>> (12 &&& 31)) &&& 7)) 0 39 ((z9.toInt32 >>> (15 &&& 31)) &&& 31)) 0 40 ((z9.toInt32 >>> (20 &&& 31)) &&& 31)) 0 42 (eb_iushr z9.toInt32 25))) else if (z9.toInt32 &&& 127) = 15 then (if ((z9.toInt32 >>> (12 &&& 31)) &&& 7) ≤ 1 then (fun (z14 : Int32 × eb_St) => (z14.1, z14.2)) (m_X10_goesOn (eb_pI (eb_pI (eb_pI (eb_pI (eb_pI (eb_pI z7.2 0 37 z9.toInt32) 0 38 ((z9.toInt32 >>> (7 &&& 31)) &&& 31)) 0 41 ((z9.toInt32 >>> (12 &&& 31)) &&& 7)) 0 39 ((z9.toInt32 >>> (15 &&& 31)) &&& 31)) 0 40 ((z9.toInt32 >>> (20 &&& 31)) &&& 31)) 0 42 (eb_iushr z9.toInt32 25))) else (fun (z15 : Int32 × eb_St) => (z15.1, z15.2)) (m_X10_illegal (eb_pI (eb_pI (eb_pI (eb_pI (eb_pI (eb_pI z7.2 0 37 z9.toInt32) 0 38 ((z9.toInt32 >>> (7 &&& 31)) &&& 31)) 0 41 ((z9.toInt32 >>> (12 &&& 31)) &&& 7)) 0 39 ((z9.toInt32 >>> (15 &&& 31)) &&& 31)) 0 40 ((z9.toInt32 >>> (20 &&& 31)) &&& 31)) 0 42 (eb_iushr z9.toInt32 25)))) else if (z9.toInt32 &&& 127) = 19 then (fun (z17 : Int32 × eb_St) => (z17.1, z17.2)) (m_X10_immediate (eb_pI (eb_pI (eb_pI (eb_pI (eb_pI (eb_pI z7.2 0 37 z9.toInt32) 0 38 ((z9.toInt32 >>> (7 &&& 31)) &&& 31)) 0 41 ((z9.toInt32 >>> (12 &&& 31)) &&& 7)) 0 39 ((z9.toInt32 >>> (15 &&& 31)) &&& 31)) 0 40 ((z9.toInt32 >>> (20 &&& 31)) &&& 31)) 0 42 (eb_iushr z9.toInt32 25))) else if (z9.toInt32 &&& 127) = 23 then (fun (z19 : Int32 × eb_St) => (z19.1, z19.2)) (m_X10_sets (eb_pI (eb_pI (eb_pI (eb_pI (eb_pI (eb_pI z7.2 0 37 z9.toInt32) 0 38 ((z9.toInt32 >>> (7 &&& 31)) &&& 31)) 0 41 ((z9.toInt32 >>> (12 &&& 31)) &&& 7)) 0 39 ((z9.toInt32 >>> (15 &&& 31)) &&& 31)) 0 40 ((z9.toInt32 >>> (20 &&& 31)) &&& 31)) 0 42 (eb_iushr z9.toInt32 25)) (x2 + ((z9.toInt32 &&& (-4096)).toInt64))) else if (z9.toInt32 &&& 127) = 27 then (fun (z21 : Int32 × eb_St) => (z21.1, z21.2)) (m_X10_immediateW (eb_pI (eb_pI (eb_pI (eb_pI (eb_pI (eb_pI z7.2 0 37 z9.toInt32) 0 38 ((z9.toInt32 >>> (7 &&& 31)) &&& 31)) 0 41 ((z9.toInt32 >>> (12 &&& 31)) &&& 7)) 0 39 ((z9.toInt32 >>> (15 &&& 31)) &&& 31)) 0 40 ((z9.toInt32 >>> (20 &&& 31)) &&& 31)) 0 42 (eb_iushr z9.toInt32 25))) else if (z9.toInt32 &&& 127) = 35 then (fun (z23 : Int32 × eb_St) => (z23.1, z23.2)) (m_X10_stores (eb_pI (eb_pI (eb_pI (eb_pI (eb_pI (eb_pI z7.2 0 37 z9.toInt32) 0 38 ((z9.toInt32 >>> (7 &&& 31)) &&& 31)) 0 41 ((z9.toInt32 >>> (12 &&& 31)) &&& 7)) 0 39 ((z9.toInt32 >>> (15 &&& 31)) &&& 31)) 0 40 ((z9.toInt32 >>> (20 &&& 31)) &&& 31)) 0 42 (eb_iushr z9.toInt32 25))) else if (z9.toInt32 &&& 127) = 51 then (fun (z25 : Int32 × eb_St) => (z25.1, z25.2)) (m_X10_registers (eb_pI (eb_pI (eb_pI (eb_pI (eb_pI (eb_pI z7.2 0 37 z9.toInt32) 0 38 ((z9.toInt32 >>> (7 &&& 31)) &&& 31)) 0 41 ((z9.toInt32 >>> (12 &&& 31)) &&& 7)) 0 39 ((z9.toInt32 >>> (15 &&& 31)) &&& 31)) 0 40 ((z9.toInt32 >>> (20 &&& 31)) &&& 31)) 0 42 (eb_iushr z9.toInt32 25))) else if (z9.toInt32 &&& 127) = 55 then (fun (z27 : Int32 × eb_St) => (z27.1, z27.2)) (m_X10_sets (eb_pI (eb_pI (eb_pI (eb_pI (eb_pI (eb_pI z7.2 0 37 z9.toInt32) 0 38 ((z9.toInt32 >>> (7 &&& 31)) &&& 31)) 0 41 ((z9.toInt32 >>> (12 &&& 31)) &&& 7)) 0 39 ((z9.toInt32 >>> (15 &&& 31)) &&& 31)) 0 40 ((z9.toInt32 >>> (20 &&& 31)) &&& 31)) 0 42 (eb_iushr z9.toInt32 25)) ((z9.toInt32 &&& (-4096)).toInt64)) else if (z9.toInt32 &&& 127) = 59 then (fun (z29 : Int32 × eb_St) => (z29.1, z29.2)) (m_X10_registersW (eb_pI (eb_pI (eb_pI (eb_pI (eb_pI (eb_pI z7.2 0 37 z9.toInt32) 0 38 ((z9.toInt32 >>> (7 &&& 31)) &&& 31)) 0 41 ((z9.toInt32 >>> (12 &&& 31)) &&& 7)) 0 39 ((z9.toInt32 >>> (15 &&& 31)) &&& 31)) 0 40 ((z9.toInt32 >>> (20 &&& 31)) &&& 31)) 0 42 (eb_iushr z9.toInt32 25))) else if (z9.toInt32 &&& 127) = 99 then (fun (z31 : Int32 × eb_St) => (z31.1, z31.2)) (m_X10_branches (eb_pI (eb_pI (eb_pI (eb_pI (eb_pI (eb_pI z7.2 0 37 z9.toInt32) 0 38 ((z9.toInt32 >>> (7 &&& 31)) &&& 31)) 0 41 ((z9.toInt32 >>> (12 &&& 31)) &&& 7)) 0 39 ((z9.toInt32 >>> (15 &&& 31)) &&& 31)) 0 40 ((z9.toInt32 >>> (20 &&& 31)) &&& 31)) 0 42 (eb_iushr z9.toInt32 25)) x2) else if (z9.toInt32 &&& 127) = 103 then (if ((z9.toInt32 >>> (12 &&& 31)) &&& 7) = 0 then (fun (z34 : Int64) => (fun (z35 : Int32 × eb_St) => (z35.1, z35.2)) (m_X10_jumps (eb_pI (eb_pI (eb_pI (eb_pI (eb_pI (eb_pI z7.2 0 37 z9.toInt32) 0 38 ((z9.toInt32 >>> (7 &&& 31)) &&& 31)) 0 41 ((z9.toInt32 >>> (12 &&& 31)) &&& 7)) 0 39 ((z9.toInt32 >>> (15 &&& 31)) &&& 31)) 0 40 ((z9.toInt32 >>> (20 &&& 31)) &&& 31)) 0 42 (eb_iushr z9.toInt32 25)) ((z34 + ((z9.toInt32 >>> (20 &&& 31)).toInt64)) &&& (-2)) (x2 + 4))) (m_X10_x (eb_pI (eb_pI (eb_pI (eb_pI (eb_pI (eb_pI z7.2 0 37 z9.toInt32) 0 38 ((z9.toInt32 >>> (7 &&& 31)) &&& 31)) 0 41 ((z9.toInt32 >>> (12 &&& 31)) &&& 7)) 0 39 ((z9.toInt32 >>> (15 &&& 31)) &&& 31)) 0 40 ((z9.toInt32 >>> (20 &&& 31)) &&& 31)) 0 42 (eb_iushr z9.toInt32 25)) ((z9.toInt32 >>> (15 &&& 31)) &&& 31)) else (fun (z36 : Int32 × eb_St) => (z36.1, z36.2)) (m_X10_illegal (eb_pI (eb_pI (eb_pI (eb_pI (eb_pI (eb_pI z7.2 0 37 z9.toInt32) 0 38 ((z9.toInt32 >>> (7 &&& 31)) &&& 31)) 0 41 ((z9.toInt32 >>> (12 &&& 31)) &&& 7)) 0 39 ((z9.toInt32 >>> (15 &&& 31)) &&& 31)) 0 40 ((z9.toInt32 >>> (20 &&& 31)) &&& 31)) 0 42 (eb_iushr z9.toInt32 25)))) else if (z9.toInt32 &&& 127) = 111 then (fun (z38 : Int64) => (fun (z39 : Int32 × eb_St) => (z39.1, z39.2)) (m_X10_jumps (eb_pI (eb_pI (eb_pI (eb_pI (eb_pI (eb_pI z7.2 0 37 z9.toInt32) 0 38 ((z9.toInt32 >>> (7 &&& 31)) &&& 31)) 0 41 ((z9.toInt32 >>> (12 &&& 31)) &&& 7)) 0 39 ((z9.toInt32 >>> (15 &&& 31)) &&& 31)) 0 40 ((z9.toInt32 >>> (20 &&& 31)) &&& 31)) 0 42 (eb_iushr z9.toInt32 25)) (x2 + z38) (x2 + 4))) (m_X10_jump (eb_pI (eb_pI (eb_pI (eb_pI (eb_pI (eb_pI z7.2 0 37 z9.toInt32) 0 38 ((z9.toInt32 >>> (7 &&& 31)) &&& 31)) 0 41 ((z9.toInt32 >>> (12 &&& 31)) &&& 7)) 0 39 ((z9.toInt32 >>> (15 &&& 31)) &&& 31)) 0 40 ((z9.toInt32 >>> (20 &&& 31)) &&& 31)) 0 42 (eb_iushr z9.toInt32 25))) else if (z9.toInt32 &&& 127) = 115 then (fun (z41 : Int32 × eb_St) => (z41.1, z41.2)) (m_X10_system (eb_pI (eb_pI (eb_pI (eb_pI (eb_pI (eb_pI z7.2 0 37 z9.toInt32) 0 38 ((z9.toInt32 >>> (7 &&& 31)) &&& 31)) 0 41 ((z9.toInt32 >>> (12 &&& 31)) &&& 7)) 0 39 ((z9.toInt32 >>> (15 &&& 31)) &&& 31)) 0 40 ((z9.toInt32 >>> (20 &&& 31)) &&& 31)) 0 42 (eb_iushr z9.toInt32 25)) x2) else (fun (z42 : Int32 × eb_St) => (z42.1, z42.2)) (m_X10_illegal (eb_pI (eb_pI (eb_pI (eb_pI (eb_pI (eb_pI z7.2 0 37 z9.toInt32) 0 38 ((z9.toInt32 >>> (7 &&& 31)) &&& 31)) 0 41 ((z9.toInt32 >>> (12 &&& 31)) &&& 7)) 0 39 ((z9.toInt32 >>> (15 &&& 31)) &&& 31)) 0 40 ((z9.toInt32 >>> (20 &&& 31)) &&& 31)) 0 42 (eb_iushr z9.toInt32 25))))) (m_X10_take z7.2 x2.toInt32 4))) (m_X10_lets σ x2.toInt32 4 4 (σ.1 0 4)))) (m_X10_isMemory x2 4) else (fun (z44 : Int32 × eb_St) => (z44.1, z44.2)) (m_X10_fault σ 0 x2)) = mm := by rw [ex2]; exact hm
  refine lv_lstore_n (lv' := [(1, .long x2), (0, .ref (ad 0))]) hx hb dX10_instruction_9 rfl hl (by decide) rfl (fun ls hl => ?_)
  refine lv_lload_n hx hb dX10_instruction_10 rfl (lv_at hl 0 rfl) ?_
  refine lv_ldc2 hx hb hown (hts _ (List.mem_cons_of_mem _ wi_30_7)) dX10_instruction_11 ?_
  refine lv_land hx hb dX10_instruction_14 ?_
  refine lv_lconst (v := 0) hx hb dX10_instruction_15 (by decide) ?_
  refine eb_lif_eq (tgt := 27) hx hb dX10_instruction_16 dX10_instruction_17 (by decide) (fun h3 => ?_) (fun h3 => ?_)
  · have hm := (if_pos h3).symm.trans hm
    refine lv_lload_n hx hb dX10_instruction_27 rfl (lv_at hl 0 rfl) ?_
    refine lv_iconst (v := 4) hx hb dX10_instruction_28 (by decide) ?_
    obtain ⟨z4, qz4⟩ : ∃ t : Bool, t = m_X10_isMemory x2 4 := ⟨_, rfl⟩
    have hm : (if (eb_b z4) = 0 then (fun (z6 : Int32 × eb_St) => (z6.1, z6.2)) (m_X10_fault σ 1 x2) else (fun (z7 : Bool × eb_St) => (if (eb_b z7.1) = 0 then (fun (z43 : Int32 × eb_St) => (z43.1, z43.2)) (m_X10_fault z7.2 1 x2) else (fun (z9 : Int64) => (if (z9.toInt32 &&& 127) = 3 then (fun (z11 : Int32 × eb_St) => (z11.1, z11.2)) (m_X10_loads (eb_pI (eb_pI (eb_pI (eb_pI (eb_pI (eb_pI z7.2 0 37 z9.toInt32) 0 38 ((z9.toInt32 >>> (7 &&& 31)) &&& 31)) 0 41 ((z9.toInt32 >>> (12 &&& 31)) &&& 7)) 0 39 ((z9.toInt32 >>> (15 &&& 31)) &&& 31)) 0 40 ((z9.toInt32 >>> (20 &&& 31)) &&& 31)) 0 42 (eb_iushr z9.toInt32 25))) else if (z9.toInt32 &&& 127) = 15 then (if ((z9.toInt32 >>> (12 &&& 31)) &&& 7) ≤ 1 then (fun (z14 : Int32 × eb_St) => (z14.1, z14.2)) (m_X10_goesOn (eb_pI (eb_pI (eb_pI (eb_pI (eb_pI (eb_pI z7.2 0 37 z9.toInt32) 0 38 ((z9.toInt32 >>> (7 &&& 31)) &&& 31)) 0 41 ((z9.toInt32 >>> (12 &&& 31)) &&& 7)) 0 39 ((z9.toInt32 >>> (15 &&& 31)) &&& 31)) 0 40 ((z9.toInt32 >>> (20 &&& 31)) &&& 31)) 0 42 (eb_iushr z9.toInt32 25))) else (fun (z15 : Int32 × eb_St) => (z15.1, z15.2)) (m_X10_illegal (eb_pI (eb_pI (eb_pI (eb_pI (eb_pI (eb_pI z7.2 0 37 z9.toInt32) 0 38 ((z9.toInt32 >>> (7 &&& 31)) &&& 31)) 0 41 ((z9.toInt32 >>> (12 &&& 31)) &&& 7)) 0 39 ((z9.toInt32 >>> (15 &&& 31)) &&& 31)) 0 40 ((z9.toInt32 >>> (20 &&& 31)) &&& 31)) 0 42 (eb_iushr z9.toInt32 25)))) else if (z9.toInt32 &&& 127) = 19 then (fun (z17 : Int32 × eb_St) => (z17.1, z17.2)) (m_X10_immediate (eb_pI (eb_pI (eb_pI (eb_pI (eb_pI (eb_pI z7.2 0 37 z9.toInt32) 0 38 ((z9.toInt32 >>> (7 &&& 31)) &&& 31)) 0 41 ((z9.toInt32 >>> (12 &&& 31)) &&& 7)) 0 39 ((z9.toInt32 >>> (15 &&& 31)) &&& 31)) 0 40 ((z9.toInt32 >>> (20 &&& 31)) &&& 31)) 0 42 (eb_iushr z9.toInt32 25))) else if (z9.toInt32 &&& 127) = 23 then (fun (z19 : Int32 × eb_St) => (z19.1, z19.2)) (m_X10_sets (eb_pI (eb_pI (eb_pI (eb_pI (eb_pI (eb_pI z7.2 0 37 z9.toInt32) 0 38 ((z9.toInt32 >>> (7 &&& 31)) &&& 31)) 0 41 ((z9.toInt32 >>> (12 &&& 31)) &&& 7)) 0 39 ((z9.toInt32 >>> (15 &&& 31)) &&& 31)) 0 40 ((z9.toInt32 >>> (20 &&& 31)) &&& 31)) 0 42 (eb_iushr z9.toInt32 25)) (x2 + ((z9.toInt32 &&& (-4096)).toInt64))) else if (z9.toInt32 &&& 127) = 27 then (fun (z21 : Int32 × eb_St) => (z21.1, z21.2)) (m_X10_immediateW (eb_pI (eb_pI (eb_pI (eb_pI (eb_pI (eb_pI z7.2 0 37 z9.toInt32) 0 38 ((z9.toInt32 >>> (7 &&& 31)) &&& 31)) 0 41 ((z9.toInt32 >>> (12 &&& 31)) &&& 7)) 0 39 ((z9.toInt32 >>> (15 &&& 31)) &&& 31)) 0 40 ((z9.toInt32 >>> (20 &&& 31)) &&& 31)) 0 42 (eb_iushr z9.toInt32 25))) else if (z9.toInt32 &&& 127) = 35 then (fun (z23 : Int32 × eb_St) => (z23.1, z23.2)) (m_X10_stores (eb_pI (eb_pI (eb_pI (eb_pI (eb_pI (eb_pI z7.2 0 37 z9.toInt32) 0 38 ((z9.toInt32 >>> (7 &&& 31)) &&& 31)) 0 41 ((z9.toInt32 >>> (12 &&& 31)) &&& 7)) 0 39 ((z9.toInt32 >>> (15 &&& 31)) &&& 31)) 0 40 ((z9.toInt32 >>> (20 &&& 31)) &&& 31)) 0 42 (eb_iushr z9.toInt32 25))) else if (z9.toInt32 &&& 127) = 51 then (fun (z25 : Int32 × eb_St) => (z25.1, z25.2)) (m_X10_registers (eb_pI (eb_pI (eb_pI (eb_pI (eb_pI (eb_pI z7.2 0 37 z9.toInt32) 0 38 ((z9.toInt32 >>> (7 &&& 31)) &&& 31)) 0 41 ((z9.toInt32 >>> (12 &&& 31)) &&& 7)) 0 39 ((z9.toInt32 >>> (15 &&& 31)) &&& 31)) 0 40 ((z9.toInt32 >>> (20 &&& 31)) &&& 31)) 0 42 (eb_iushr z9.toInt32 25))) else if (z9.toInt32 &&& 127) = 55 then (fun (z27 : Int32 × eb_St) => (z27.1, z27.2)) (m_X10_sets (eb_pI (eb_pI (eb_pI (eb_pI (eb_pI (eb_pI z7.2 0 37 z9.toInt32) 0 38 ((z9.toInt32 >>> (7 &&& 31)) &&& 31)) 0 41 ((z9.toInt32 >>> (12 &&& 31)) &&& 7)) 0 39 ((z9.toInt32 >>> (15 &&& 31)) &&& 31)) 0 40 ((z9.toInt32 >>> (20 &&& 31)) &&& 31)) 0 42 (eb_iushr z9.toInt32 25)) ((z9.toInt32 &&& (-4096)).toInt64)) else if (z9.toInt32 &&& 127) = 59 then (fun (z29 : Int32 × eb_St) => (z29.1, z29.2)) (m_X10_registersW (eb_pI (eb_pI (eb_pI (eb_pI (eb_pI (eb_pI z7.2 0 37 z9.toInt32) 0 38 ((z9.toInt32 >>> (7 &&& 31)) &&& 31)) 0 41 ((z9.toInt32 >>> (12 &&& 31)) &&& 7)) 0 39 ((z9.toInt32 >>> (15 &&& 31)) &&& 31)) 0 40 ((z9.toInt32 >>> (20 &&& 31)) &&& 31)) 0 42 (eb_iushr z9.toInt32 25))) else if (z9.toInt32 &&& 127) = 99 then (fun (z31 : Int32 × eb_St) => (z31.1, z31.2)) (m_X10_branches (eb_pI (eb_pI (eb_pI (eb_pI (eb_pI (eb_pI z7.2 0 37 z9.toInt32) 0 38 ((z9.toInt32 >>> (7 &&& 31)) &&& 31)) 0 41 ((z9.toInt32 >>> (12 &&& 31)) &&& 7)) 0 39 ((z9.toInt32 >>> (15 &&& 31)) &&& 31)) 0 40 ((z9.toInt32 >>> (20 &&& 31)) &&& 31)) 0 42 (eb_iushr z9.toInt32 25)) x2) else if (z9.toInt32 &&& 127) = 103 then (if ((z9.toInt32 >>> (12 &&& 31)) &&& 7) = 0 then (fun (z34 : Int64) => (fun (z35 : Int32 × eb_St) => (z35.1, z35.2)) (m_X10_jumps (eb_pI (eb_pI (eb_pI (eb_pI (eb_pI (eb_pI z7.2 0 37 z9.toInt32) 0 38 ((z9.toInt32 >>> (7 &&& 31)) &&& 31)) 0 41 ((z9.toInt32 >>> (12 &&& 31)) &&& 7)) 0 39 ((z9.toInt32 >>> (15 &&& 31)) &&& 31)) 0 40 ((z9.toInt32 >>> (20 &&& 31)) &&& 31)) 0 42 (eb_iushr z9.toInt32 25)) ((z34 + ((z9.toInt32 >>> (20 &&& 31)).toInt64)) &&& (-2)) (x2 + 4))) (m_X10_x (eb_pI (eb_pI (eb_pI (eb_pI (eb_pI (eb_pI z7.2 0 37 z9.toInt32) 0 38 ((z9.toInt32 >>> (7 &&& 31)) &&& 31)) 0 41 ((z9.toInt32 >>> (12 &&& 31)) &&& 7)) 0 39 ((z9.toInt32 >>> (15 &&& 31)) &&& 31)) 0 40 ((z9.toInt32 >>> (20 &&& 31)) &&& 31)) 0 42 (eb_iushr z9.toInt32 25)) ((z9.toInt32 >>> (15 &&& 31)) &&& 31)) else (fun (z36 : Int32 × eb_St) => (z36.1, z36.2)) (m_X10_illegal (eb_pI (eb_pI (eb_pI (eb_pI (eb_pI (eb_pI z7.2 0 37 z9.toInt32) 0 38 ((z9.toInt32 >>> (7 &&& 31)) &&& 31)) 0 41 ((z9.toInt32 >>> (12 &&& 31)) &&& 7)) 0 39 ((z9.toInt32 >>> (15 &&& 31)) &&& 31)) 0 40 ((z9.toInt32 >>> (20 &&& 31)) &&& 31)) 0 42 (eb_iushr z9.toInt32 25)))) else if (z9.toInt32 &&& 127) = 111 then (fun (z38 : Int64) => (fun (z39 : Int32 × eb_St) => (z39.1, z39.2)) (m_X10_jumps (eb_pI (eb_pI (eb_pI (eb_pI (eb_pI (eb_pI z7.2 0 37 z9.toInt32) 0 38 ((z9.toInt32 >>> (7 &&& 31)) &&& 31)) 0 41 ((z9.toInt32 >>> (12 &&& 31)) &&& 7)) 0 39 ((z9.toInt32 >>> (15 &&& 31)) &&& 31)) 0 40 ((z9.toInt32 >>> (20 &&& 31)) &&& 31)) 0 42 (eb_iushr z9.toInt32 25)) (x2 + z38) (x2 + 4))) (m_X10_jump (eb_pI (eb_pI (eb_pI (eb_pI (eb_pI (eb_pI z7.2 0 37 z9.toInt32) 0 38 ((z9.toInt32 >>> (7 &&& 31)) &&& 31)) 0 41 ((z9.toInt32 >>> (12 &&& 31)) &&& 7)) 0 39 ((z9.toInt32 >>> (15 &&& 31)) &&& 31)) 0 40 ((z9.toInt32 >>> (20 &&& 31)) &&& 31)) 0 42 (eb_iushr z9.toInt32 25))) else if (z9.toInt32 &&& 127) = 115 then (fun (z41 : Int32 × eb_St) => (z41.1, z41.2)) (m_X10_system (eb_pI (eb_pI (eb_pI (eb_pI (eb_pI (eb_pI z7.2 0 37 z9.toInt32) 0 38 ((z9.toInt32 >>> (7 &&& 31)) &&& 31)) 0 41 ((z9.toInt32 >>> (12 &&& 31)) &&& 7)) 0 39 ((z9.toInt32 >>> (15 &&& 31)) &&& 31)) 0 40 ((z9.toInt32 >>> (20 &&& 31)) &&& 31)) 0 42 (eb_iushr z9.toInt32 25)) x2) else (fun (z42 : Int32 × eb_St) => (z42.1, z42.2)) (m_X10_illegal (eb_pI (eb_pI (eb_pI (eb_pI (eb_pI (eb_pI z7.2 0 37 z9.toInt32) 0 38 ((z9.toInt32 >>> (7 &&& 31)) &&& 31)) 0 41 ((z9.toInt32 >>> (12 &&& 31)) &&& 7)) 0 39 ((z9.toInt32 >>> (15 &&& 31)) &&& 31)) 0 40 ((z9.toInt32 >>> (20 &&& 31)) &&& 31)) 0 42 (eb_iushr z9.toInt32 25))))) (m_X10_take z7.2 x2.toInt32 4))) (m_X10_lets σ x2.toInt32 4 4 (σ.1 0 4))) = mm := by rw [qz4]; exact hm
    have hc : eb_M l yX10_isMemory (Cond.code yX10_isMemory cX10_isMemory 3 (some .boolean) :: wsL_law) 0 0 D 18 cy rL ad σ [.long x2, .int 4] (some (.int (eb_b z4))) σ := by rw [qz4]; exact c_X10_isMemory l D cy ad σ x2 4
    refine eb_callS (n := 2) X hw hl.1 (rest := []) hc (eb_goodS wi_31_0 wi_31_1 wi_1_5 wi_31_2) rfl (by decide +kernel) ⟨by decide, by decide⟩ rfl rfl (Nat.le_of_ble_eq_true rfl) dX10_instruction_29 ⟨by decide, by decide⟩ (st' := [.int (eb_b z4)]) rfl (fun H locs hw => ?_)
    refine lv_if_eq (tgt := 50) hx hb dX10_instruction_32 (by decide) (fun h5 => ?_) (fun h5 => ?_)
    · have hm := (if_pos h5).symm.trans hm
      refine lv_aload_n hx hb dX10_instruction_50 rfl (lv_at hl 1 rfl) ?_
      refine lv_iconst (v := 1) hx hb dX10_instruction_51 (by decide) ?_
      refine lv_lload_n hx hb dX10_instruction_52 rfl (lv_at hl 0 rfl) ?_
      obtain ⟨z6, qz6⟩ : ∃ t : Int32 × eb_St, t = m_X10_fault σ 1 x2 := ⟨_, rfl⟩
      have hm : (z6.1, z6.2) = mm := by rw [qz6]; exact hm
      have jz6 : rJ z6.2 := J_X10_fault qz6.symm hj_
      have hc : eb_M l yX10_fault (Cond.code yX10_fault cX10_fault 4 (some .int) :: wsL_law) 0 0 D 18 cy rL ad σ [.ref (ad 0), .int 1, .long x2] (some (.int z6.1)) z6.2 := by rw [qz6]; exact c_X10_fault l D cy ad σ 1 x2 hj_
      refine eb_callV (n := 2) (as := [.int 1, .long x2]) (rest := []) X hw hl.1 0 hc (by decide) ⟨rfl, rfl, rfl⟩ (eb_goodV wi_30_20 wi_30_21 wi_30_22 wi_1_5 wi_30_23) rfl (by decide +kernel) ⟨by decide, by decide⟩ rfl rfl (Nat.le_of_ble_eq_true rfl) dX10_instruction_53 ⟨by decide, by decide⟩ (st' := [.int z6.1]) rfl (fun H locs hw => ?_)
      subst hm
      exact eb_iret X hw rfl rfl rfl dX10_instruction_56
    · have hm := (if_neg h5).symm.trans hm
      refine lv_aload_n hx hb dX10_instruction_35 rfl (lv_at hl 1 rfl) ?_
      refine lv_lload_n hx hb dX10_instruction_36 rfl (lv_at hl 0 rfl) ?_
      refine lv_l2i (v := x2.toInt32) hx hb dX10_instruction_37 rfl ?_
      refine lv_iconst (v := 4) hx hb dX10_instruction_38 (by decide) ?_
      refine lv_iconst (v := 4) hx hb dX10_instruction_39 (by decide) ?_
      refine lv_aload_n hx hb dX10_instruction_40 rfl (lv_at hl 1 rfl) ?_
      refine eb_get (T := TX10) X hw 0 4 (by decide) ⟨rfl, rfl, rfl⟩ (by decide) (fun _ h => List.mem_cons_of_mem _ (inlX10 _ h)) (List.mem_cons_of_mem _ wi_5_11) (v := .int (σ.1 0 4)) rfl dX10_instruction_41 ?_
      obtain ⟨z7, qz7⟩ : ∃ t : Bool × eb_St, t = m_X10_lets σ x2.toInt32 4 4 (σ.1 0 4) := ⟨_, rfl⟩
      have hm : (if (eb_b z7.1) = 0 then (fun (z43 : Int32 × eb_St) => (z43.1, z43.2)) (m_X10_fault z7.2 1 x2) else (fun (z9 : Int64) => (if (z9.toInt32 &&& 127) = 3 then (fun (z11 : Int32 × eb_St) => (z11.1, z11.2)) (m_X10_loads (eb_pI (eb_pI (eb_pI (eb_pI (eb_pI (eb_pI z7.2 0 37 z9.toInt32) 0 38 ((z9.toInt32 >>> (7 &&& 31)) &&& 31)) 0 41 ((z9.toInt32 >>> (12 &&& 31)) &&& 7)) 0 39 ((z9.toInt32 >>> (15 &&& 31)) &&& 31)) 0 40 ((z9.toInt32 >>> (20 &&& 31)) &&& 31)) 0 42 (eb_iushr z9.toInt32 25))) else if (z9.toInt32 &&& 127) = 15 then (if ((z9.toInt32 >>> (12 &&& 31)) &&& 7) ≤ 1 then (fun (z14 : Int32 × eb_St) => (z14.1, z14.2)) (m_X10_goesOn (eb_pI (eb_pI (eb_pI (eb_pI (eb_pI (eb_pI z7.2 0 37 z9.toInt32) 0 38 ((z9.toInt32 >>> (7 &&& 31)) &&& 31)) 0 41 ((z9.toInt32 >>> (12 &&& 31)) &&& 7)) 0 39 ((z9.toInt32 >>> (15 &&& 31)) &&& 31)) 0 40 ((z9.toInt32 >>> (20 &&& 31)) &&& 31)) 0 42 (eb_iushr z9.toInt32 25))) else (fun (z15 : Int32 × eb_St) => (z15.1, z15.2)) (m_X10_illegal (eb_pI (eb_pI (eb_pI (eb_pI (eb_pI (eb_pI z7.2 0 37 z9.toInt32) 0 38 ((z9.toInt32 >>> (7 &&& 31)) &&& 31)) 0 41 ((z9.toInt32 >>> (12 &&& 31)) &&& 7)) 0 39 ((z9.toInt32 >>> (15 &&& 31)) &&& 31)) 0 40 ((z9.toInt32 >>> (20 &&& 31)) &&& 31)) 0 42 (eb_iushr z9.toInt32 25)))) else if (z9.toInt32 &&& 127) = 19 then (fun (z17 : Int32 × eb_St) => (z17.1, z17.2)) (m_X10_immediate (eb_pI (eb_pI (eb_pI (eb_pI (eb_pI (eb_pI z7.2 0 37 z9.toInt32) 0 38 ((z9.toInt32 >>> (7 &&& 31)) &&& 31)) 0 41 ((z9.toInt32 >>> (12 &&& 31)) &&& 7)) 0 39 ((z9.toInt32 >>> (15 &&& 31)) &&& 31)) 0 40 ((z9.toInt32 >>> (20 &&& 31)) &&& 31)) 0 42 (eb_iushr z9.toInt32 25))) else if (z9.toInt32 &&& 127) = 23 then (fun (z19 : Int32 × eb_St) => (z19.1, z19.2)) (m_X10_sets (eb_pI (eb_pI (eb_pI (eb_pI (eb_pI (eb_pI z7.2 0 37 z9.toInt32) 0 38 ((z9.toInt32 >>> (7 &&& 31)) &&& 31)) 0 41 ((z9.toInt32 >>> (12 &&& 31)) &&& 7)) 0 39 ((z9.toInt32 >>> (15 &&& 31)) &&& 31)) 0 40 ((z9.toInt32 >>> (20 &&& 31)) &&& 31)) 0 42 (eb_iushr z9.toInt32 25)) (x2 + ((z9.toInt32 &&& (-4096)).toInt64))) else if (z9.toInt32 &&& 127) = 27 then (fun (z21 : Int32 × eb_St) => (z21.1, z21.2)) (m_X10_immediateW (eb_pI (eb_pI (eb_pI (eb_pI (eb_pI (eb_pI z7.2 0 37 z9.toInt32) 0 38 ((z9.toInt32 >>> (7 &&& 31)) &&& 31)) 0 41 ((z9.toInt32 >>> (12 &&& 31)) &&& 7)) 0 39 ((z9.toInt32 >>> (15 &&& 31)) &&& 31)) 0 40 ((z9.toInt32 >>> (20 &&& 31)) &&& 31)) 0 42 (eb_iushr z9.toInt32 25))) else if (z9.toInt32 &&& 127) = 35 then (fun (z23 : Int32 × eb_St) => (z23.1, z23.2)) (m_X10_stores (eb_pI (eb_pI (eb_pI (eb_pI (eb_pI (eb_pI z7.2 0 37 z9.toInt32) 0 38 ((z9.toInt32 >>> (7 &&& 31)) &&& 31)) 0 41 ((z9.toInt32 >>> (12 &&& 31)) &&& 7)) 0 39 ((z9.toInt32 >>> (15 &&& 31)) &&& 31)) 0 40 ((z9.toInt32 >>> (20 &&& 31)) &&& 31)) 0 42 (eb_iushr z9.toInt32 25))) else if (z9.toInt32 &&& 127) = 51 then (fun (z25 : Int32 × eb_St) => (z25.1, z25.2)) (m_X10_registers (eb_pI (eb_pI (eb_pI (eb_pI (eb_pI (eb_pI z7.2 0 37 z9.toInt32) 0 38 ((z9.toInt32 >>> (7 &&& 31)) &&& 31)) 0 41 ((z9.toInt32 >>> (12 &&& 31)) &&& 7)) 0 39 ((z9.toInt32 >>> (15 &&& 31)) &&& 31)) 0 40 ((z9.toInt32 >>> (20 &&& 31)) &&& 31)) 0 42 (eb_iushr z9.toInt32 25))) else if (z9.toInt32 &&& 127) = 55 then (fun (z27 : Int32 × eb_St) => (z27.1, z27.2)) (m_X10_sets (eb_pI (eb_pI (eb_pI (eb_pI (eb_pI (eb_pI z7.2 0 37 z9.toInt32) 0 38 ((z9.toInt32 >>> (7 &&& 31)) &&& 31)) 0 41 ((z9.toInt32 >>> (12 &&& 31)) &&& 7)) 0 39 ((z9.toInt32 >>> (15 &&& 31)) &&& 31)) 0 40 ((z9.toInt32 >>> (20 &&& 31)) &&& 31)) 0 42 (eb_iushr z9.toInt32 25)) ((z9.toInt32 &&& (-4096)).toInt64)) else if (z9.toInt32 &&& 127) = 59 then (fun (z29 : Int32 × eb_St) => (z29.1, z29.2)) (m_X10_registersW (eb_pI (eb_pI (eb_pI (eb_pI (eb_pI (eb_pI z7.2 0 37 z9.toInt32) 0 38 ((z9.toInt32 >>> (7 &&& 31)) &&& 31)) 0 41 ((z9.toInt32 >>> (12 &&& 31)) &&& 7)) 0 39 ((z9.toInt32 >>> (15 &&& 31)) &&& 31)) 0 40 ((z9.toInt32 >>> (20 &&& 31)) &&& 31)) 0 42 (eb_iushr z9.toInt32 25))) else if (z9.toInt32 &&& 127) = 99 then (fun (z31 : Int32 × eb_St) => (z31.1, z31.2)) (m_X10_branches (eb_pI (eb_pI (eb_pI (eb_pI (eb_pI (eb_pI z7.2 0 37 z9.toInt32) 0 38 ((z9.toInt32 >>> (7 &&& 31)) &&& 31)) 0 41 ((z9.toInt32 >>> (12 &&& 31)) &&& 7)) 0 39 ((z9.toInt32 >>> (15 &&& 31)) &&& 31)) 0 40 ((z9.toInt32 >>> (20 &&& 31)) &&& 31)) 0 42 (eb_iushr z9.toInt32 25)) x2) else if (z9.toInt32 &&& 127) = 103 then (if ((z9.toInt32 >>> (12 &&& 31)) &&& 7) = 0 then (fun (z34 : Int64) => (fun (z35 : Int32 × eb_St) => (z35.1, z35.2)) (m_X10_jumps (eb_pI (eb_pI (eb_pI (eb_pI (eb_pI (eb_pI z7.2 0 37 z9.toInt32) 0 38 ((z9.toInt32 >>> (7 &&& 31)) &&& 31)) 0 41 ((z9.toInt32 >>> (12 &&& 31)) &&& 7)) 0 39 ((z9.toInt32 >>> (15 &&& 31)) &&& 31)) 0 40 ((z9.toInt32 >>> (20 &&& 31)) &&& 31)) 0 42 (eb_iushr z9.toInt32 25)) ((z34 + ((z9.toInt32 >>> (20 &&& 31)).toInt64)) &&& (-2)) (x2 + 4))) (m_X10_x (eb_pI (eb_pI (eb_pI (eb_pI (eb_pI (eb_pI z7.2 0 37 z9.toInt32) 0 38 ((z9.toInt32 >>> (7 &&& 31)) &&& 31)) 0 41 ((z9.toInt32 >>> (12 &&& 31)) &&& 7)) 0 39 ((z9.toInt32 >>> (15 &&& 31)) &&& 31)) 0 40 ((z9.toInt32 >>> (20 &&& 31)) &&& 31)) 0 42 (eb_iushr z9.toInt32 25)) ((z9.toInt32 >>> (15 &&& 31)) &&& 31)) else (fun (z36 : Int32 × eb_St) => (z36.1, z36.2)) (m_X10_illegal (eb_pI (eb_pI (eb_pI (eb_pI (eb_pI (eb_pI z7.2 0 37 z9.toInt32) 0 38 ((z9.toInt32 >>> (7 &&& 31)) &&& 31)) 0 41 ((z9.toInt32 >>> (12 &&& 31)) &&& 7)) 0 39 ((z9.toInt32 >>> (15 &&& 31)) &&& 31)) 0 40 ((z9.toInt32 >>> (20 &&& 31)) &&& 31)) 0 42 (eb_iushr z9.toInt32 25)))) else if (z9.toInt32 &&& 127) = 111 then (fun (z38 : Int64) => (fun (z39 : Int32 × eb_St) => (z39.1, z39.2)) (m_X10_jumps (eb_pI (eb_pI (eb_pI (eb_pI (eb_pI (eb_pI z7.2 0 37 z9.toInt32) 0 38 ((z9.toInt32 >>> (7 &&& 31)) &&& 31)) 0 41 ((z9.toInt32 >>> (12 &&& 31)) &&& 7)) 0 39 ((z9.toInt32 >>> (15 &&& 31)) &&& 31)) 0 40 ((z9.toInt32 >>> (20 &&& 31)) &&& 31)) 0 42 (eb_iushr z9.toInt32 25)) (x2 + z38) (x2 + 4))) (m_X10_jump (eb_pI (eb_pI (eb_pI (eb_pI (eb_pI (eb_pI z7.2 0 37 z9.toInt32) 0 38 ((z9.toInt32 >>> (7 &&& 31)) &&& 31)) 0 41 ((z9.toInt32 >>> (12 &&& 31)) &&& 7)) 0 39 ((z9.toInt32 >>> (15 &&& 31)) &&& 31)) 0 40 ((z9.toInt32 >>> (20 &&& 31)) &&& 31)) 0 42 (eb_iushr z9.toInt32 25))) else if (z9.toInt32 &&& 127) = 115 then (fun (z41 : Int32 × eb_St) => (z41.1, z41.2)) (m_X10_system (eb_pI (eb_pI (eb_pI (eb_pI (eb_pI (eb_pI z7.2 0 37 z9.toInt32) 0 38 ((z9.toInt32 >>> (7 &&& 31)) &&& 31)) 0 41 ((z9.toInt32 >>> (12 &&& 31)) &&& 7)) 0 39 ((z9.toInt32 >>> (15 &&& 31)) &&& 31)) 0 40 ((z9.toInt32 >>> (20 &&& 31)) &&& 31)) 0 42 (eb_iushr z9.toInt32 25)) x2) else (fun (z42 : Int32 × eb_St) => (z42.1, z42.2)) (m_X10_illegal (eb_pI (eb_pI (eb_pI (eb_pI (eb_pI (eb_pI z7.2 0 37 z9.toInt32) 0 38 ((z9.toInt32 >>> (7 &&& 31)) &&& 31)) 0 41 ((z9.toInt32 >>> (12 &&& 31)) &&& 7)) 0 39 ((z9.toInt32 >>> (15 &&& 31)) &&& 31)) 0 40 ((z9.toInt32 >>> (20 &&& 31)) &&& 31)) 0 42 (eb_iushr z9.toInt32 25))))) (m_X10_take z7.2 x2.toInt32 4)) = mm := by rw [qz7]; exact hm
      have jz7 : rJ z7.2 := J_X10_lets qz7.symm hj_ hj_.2.2.2.2.2.1
      have hc : eb_M l yX10_lets (Cond.code yX10_lets cX10_lets 7 (some .boolean) :: wsL_law) 4 92 D 18 cy rL ad σ [.ref (ad 0), .int x2.toInt32, .int 4, .int 4, .int (σ.1 0 4)] (some (.int (eb_b z7.1))) z7.2 := by rw [qz7]; exact c_X10_lets l D cy ad σ x2.toInt32 4 4 (σ.1 0 4) hj_ hj_.2.2.2.2.2.1
      refine eb_callV (n := 4) (as := [.int x2.toInt32, .int 4, .int 4, .int (σ.1 0 4)]) (rest := []) X hw hl.1 0 hc (by decide) ⟨rfl, rfl, rfl⟩ (eb_goodV wi_31_3 wi_31_4 wi_31_5 wi_1_5 wi_31_6) rfl (by decide +kernel) ⟨by decide, by decide⟩ rfl rfl (Nat.le_of_ble_eq_true rfl) dX10_instruction_44 ⟨by decide, by decide⟩ (st' := [.int (eb_b z7.1)]) rfl (fun H locs hw => ?_)
      refine lv_if_ne (tgt := 57) hx hb dX10_instruction_47 (by decide) (fun h8 => ?_) (fun h8 => ?_)
      · have hm := (if_neg h8).symm.trans hm
        refine lv_aload_n hx hb dX10_instruction_57 rfl (lv_at hl 1 rfl) ?_
        refine lv_aload_n hx hb dX10_instruction_58 rfl (lv_at hl 1 rfl) ?_
        refine lv_lload_n hx hb dX10_instruction_59 rfl (lv_at hl 0 rfl) ?_
        refine lv_l2i (v := x2.toInt32) hx hb dX10_instruction_60 rfl ?_
        refine lv_iconst (v := 4) hx hb dX10_instruction_61 (by decide) ?_
        obtain ⟨z9, qz9⟩ : ∃ t : Int64, t = m_X10_take z7.2 x2.toInt32 4 := ⟨_, rfl⟩
        have hm : (if (z9.toInt32 &&& 127) = 3 then (fun (z11 : Int32 × eb_St) => (z11.1, z11.2)) (m_X10_loads (eb_pI (eb_pI (eb_pI (eb_pI (eb_pI (eb_pI z7.2 0 37 z9.toInt32) 0 38 ((z9.toInt32 >>> (7 &&& 31)) &&& 31)) 0 41 ((z9.toInt32 >>> (12 &&& 31)) &&& 7)) 0 39 ((z9.toInt32 >>> (15 &&& 31)) &&& 31)) 0 40 ((z9.toInt32 >>> (20 &&& 31)) &&& 31)) 0 42 (eb_iushr z9.toInt32 25))) else if (z9.toInt32 &&& 127) = 15 then (if ((z9.toInt32 >>> (12 &&& 31)) &&& 7) ≤ 1 then (fun (z14 : Int32 × eb_St) => (z14.1, z14.2)) (m_X10_goesOn (eb_pI (eb_pI (eb_pI (eb_pI (eb_pI (eb_pI z7.2 0 37 z9.toInt32) 0 38 ((z9.toInt32 >>> (7 &&& 31)) &&& 31)) 0 41 ((z9.toInt32 >>> (12 &&& 31)) &&& 7)) 0 39 ((z9.toInt32 >>> (15 &&& 31)) &&& 31)) 0 40 ((z9.toInt32 >>> (20 &&& 31)) &&& 31)) 0 42 (eb_iushr z9.toInt32 25))) else (fun (z15 : Int32 × eb_St) => (z15.1, z15.2)) (m_X10_illegal (eb_pI (eb_pI (eb_pI (eb_pI (eb_pI (eb_pI z7.2 0 37 z9.toInt32) 0 38 ((z9.toInt32 >>> (7 &&& 31)) &&& 31)) 0 41 ((z9.toInt32 >>> (12 &&& 31)) &&& 7)) 0 39 ((z9.toInt32 >>> (15 &&& 31)) &&& 31)) 0 40 ((z9.toInt32 >>> (20 &&& 31)) &&& 31)) 0 42 (eb_iushr z9.toInt32 25)))) else if (z9.toInt32 &&& 127) = 19 then (fun (z17 : Int32 × eb_St) => (z17.1, z17.2)) (m_X10_immediate (eb_pI (eb_pI (eb_pI (eb_pI (eb_pI (eb_pI z7.2 0 37 z9.toInt32) 0 38 ((z9.toInt32 >>> (7 &&& 31)) &&& 31)) 0 41 ((z9.toInt32 >>> (12 &&& 31)) &&& 7)) 0 39 ((z9.toInt32 >>> (15 &&& 31)) &&& 31)) 0 40 ((z9.toInt32 >>> (20 &&& 31)) &&& 31)) 0 42 (eb_iushr z9.toInt32 25))) else if (z9.toInt32 &&& 127) = 23 then (fun (z19 : Int32 × eb_St) => (z19.1, z19.2)) (m_X10_sets (eb_pI (eb_pI (eb_pI (eb_pI (eb_pI (eb_pI z7.2 0 37 z9.toInt32) 0 38 ((z9.toInt32 >>> (7 &&& 31)) &&& 31)) 0 41 ((z9.toInt32 >>> (12 &&& 31)) &&& 7)) 0 39 ((z9.toInt32 >>> (15 &&& 31)) &&& 31)) 0 40 ((z9.toInt32 >>> (20 &&& 31)) &&& 31)) 0 42 (eb_iushr z9.toInt32 25)) (x2 + ((z9.toInt32 &&& (-4096)).toInt64))) else if (z9.toInt32 &&& 127) = 27 then (fun (z21 : Int32 × eb_St) => (z21.1, z21.2)) (m_X10_immediateW (eb_pI (eb_pI (eb_pI (eb_pI (eb_pI (eb_pI z7.2 0 37 z9.toInt32) 0 38 ((z9.toInt32 >>> (7 &&& 31)) &&& 31)) 0 41 ((z9.toInt32 >>> (12 &&& 31)) &&& 7)) 0 39 ((z9.toInt32 >>> (15 &&& 31)) &&& 31)) 0 40 ((z9.toInt32 >>> (20 &&& 31)) &&& 31)) 0 42 (eb_iushr z9.toInt32 25))) else if (z9.toInt32 &&& 127) = 35 then (fun (z23 : Int32 × eb_St) => (z23.1, z23.2)) (m_X10_stores (eb_pI (eb_pI (eb_pI (eb_pI (eb_pI (eb_pI z7.2 0 37 z9.toInt32) 0 38 ((z9.toInt32 >>> (7 &&& 31)) &&& 31)) 0 41 ((z9.toInt32 >>> (12 &&& 31)) &&& 7)) 0 39 ((z9.toInt32 >>> (15 &&& 31)) &&& 31)) 0 40 ((z9.toInt32 >>> (20 &&& 31)) &&& 31)) 0 42 (eb_iushr z9.toInt32 25))) else if (z9.toInt32 &&& 127) = 51 then (fun (z25 : Int32 × eb_St) => (z25.1, z25.2)) (m_X10_registers (eb_pI (eb_pI (eb_pI (eb_pI (eb_pI (eb_pI z7.2 0 37 z9.toInt32) 0 38 ((z9.toInt32 >>> (7 &&& 31)) &&& 31)) 0 41 ((z9.toInt32 >>> (12 &&& 31)) &&& 7)) 0 39 ((z9.toInt32 >>> (15 &&& 31)) &&& 31)) 0 40 ((z9.toInt32 >>> (20 &&& 31)) &&& 31)) 0 42 (eb_iushr z9.toInt32 25))) else if (z9.toInt32 &&& 127) = 55 then (fun (z27 : Int32 × eb_St) => (z27.1, z27.2)) (m_X10_sets (eb_pI (eb_pI (eb_pI (eb_pI (eb_pI (eb_pI z7.2 0 37 z9.toInt32) 0 38 ((z9.toInt32 >>> (7 &&& 31)) &&& 31)) 0 41 ((z9.toInt32 >>> (12 &&& 31)) &&& 7)) 0 39 ((z9.toInt32 >>> (15 &&& 31)) &&& 31)) 0 40 ((z9.toInt32 >>> (20 &&& 31)) &&& 31)) 0 42 (eb_iushr z9.toInt32 25)) ((z9.toInt32 &&& (-4096)).toInt64)) else if (z9.toInt32 &&& 127) = 59 then (fun (z29 : Int32 × eb_St) => (z29.1, z29.2)) (m_X10_registersW (eb_pI (eb_pI (eb_pI (eb_pI (eb_pI (eb_pI z7.2 0 37 z9.toInt32) 0 38 ((z9.toInt32 >>> (7 &&& 31)) &&& 31)) 0 41 ((z9.toInt32 >>> (12 &&& 31)) &&& 7)) 0 39 ((z9.toInt32 >>> (15 &&& 31)) &&& 31)) 0 40 ((z9.toInt32 >>> (20 &&& 31)) &&& 31)) 0 42 (eb_iushr z9.toInt32 25))) else if (z9.toInt32 &&& 127) = 99 then (fun (z31 : Int32 × eb_St) => (z31.1, z31.2)) (m_X10_branches (eb_pI (eb_pI (eb_pI (eb_pI (eb_pI (eb_pI z7.2 0 37 z9.toInt32) 0 38 ((z9.toInt32 >>> (7 &&& 31)) &&& 31)) 0 41 ((z9.toInt32 >>> (12 &&& 31)) &&& 7)) 0 39 ((z9.toInt32 >>> (15 &&& 31)) &&& 31)) 0 40 ((z9.toInt32 >>> (20 &&& 31)) &&& 31)) 0 42 (eb_iushr z9.toInt32 25)) x2) else if (z9.toInt32 &&& 127) = 103 then (if ((z9.toInt32 >>> (12 &&& 31)) &&& 7) = 0 then (fun (z34 : Int64) => (fun (z35 : Int32 × eb_St) => (z35.1, z35.2)) (m_X10_jumps (eb_pI (eb_pI (eb_pI (eb_pI (eb_pI (eb_pI z7.2 0 37 z9.toInt32) 0 38 ((z9.toInt32 >>> (7 &&& 31)) &&& 31)) 0 41 ((z9.toInt32 >>> (12 &&& 31)) &&& 7)) 0 39 ((z9.toInt32 >>> (15 &&& 31)) &&& 31)) 0 40 ((z9.toInt32 >>> (20 &&& 31)) &&& 31)) 0 42 (eb_iushr z9.toInt32 25)) ((z34 + ((z9.toInt32 >>> (20 &&& 31)).toInt64)) &&& (-2)) (x2 + 4))) (m_X10_x (eb_pI (eb_pI (eb_pI (eb_pI (eb_pI (eb_pI z7.2 0 37 z9.toInt32) 0 38 ((z9.toInt32 >>> (7 &&& 31)) &&& 31)) 0 41 ((z9.toInt32 >>> (12 &&& 31)) &&& 7)) 0 39 ((z9.toInt32 >>> (15 &&& 31)) &&& 31)) 0 40 ((z9.toInt32 >>> (20 &&& 31)) &&& 31)) 0 42 (eb_iushr z9.toInt32 25)) ((z9.toInt32 >>> (15 &&& 31)) &&& 31)) else (fun (z36 : Int32 × eb_St) => (z36.1, z36.2)) (m_X10_illegal (eb_pI (eb_pI (eb_pI (eb_pI (eb_pI (eb_pI z7.2 0 37 z9.toInt32) 0 38 ((z9.toInt32 >>> (7 &&& 31)) &&& 31)) 0 41 ((z9.toInt32 >>> (12 &&& 31)) &&& 7)) 0 39 ((z9.toInt32 >>> (15 &&& 31)) &&& 31)) 0 40 ((z9.toInt32 >>> (20 &&& 31)) &&& 31)) 0 42 (eb_iushr z9.toInt32 25)))) else if (z9.toInt32 &&& 127) = 111 then (fun (z38 : Int64) => (fun (z39 : Int32 × eb_St) => (z39.1, z39.2)) (m_X10_jumps (eb_pI (eb_pI (eb_pI (eb_pI (eb_pI (eb_pI z7.2 0 37 z9.toInt32) 0 38 ((z9.toInt32 >>> (7 &&& 31)) &&& 31)) 0 41 ((z9.toInt32 >>> (12 &&& 31)) &&& 7)) 0 39 ((z9.toInt32 >>> (15 &&& 31)) &&& 31)) 0 40 ((z9.toInt32 >>> (20 &&& 31)) &&& 31)) 0 42 (eb_iushr z9.toInt32 25)) (x2 + z38) (x2 + 4))) (m_X10_jump (eb_pI (eb_pI (eb_pI (eb_pI (eb_pI (eb_pI z7.2 0 37 z9.toInt32) 0 38 ((z9.toInt32 >>> (7 &&& 31)) &&& 31)) 0 41 ((z9.toInt32 >>> (12 &&& 31)) &&& 7)) 0 39 ((z9.toInt32 >>> (15 &&& 31)) &&& 31)) 0 40 ((z9.toInt32 >>> (20 &&& 31)) &&& 31)) 0 42 (eb_iushr z9.toInt32 25))) else if (z9.toInt32 &&& 127) = 115 then (fun (z41 : Int32 × eb_St) => (z41.1, z41.2)) (m_X10_system (eb_pI (eb_pI (eb_pI (eb_pI (eb_pI (eb_pI z7.2 0 37 z9.toInt32) 0 38 ((z9.toInt32 >>> (7 &&& 31)) &&& 31)) 0 41 ((z9.toInt32 >>> (12 &&& 31)) &&& 7)) 0 39 ((z9.toInt32 >>> (15 &&& 31)) &&& 31)) 0 40 ((z9.toInt32 >>> (20 &&& 31)) &&& 31)) 0 42 (eb_iushr z9.toInt32 25)) x2) else (fun (z42 : Int32 × eb_St) => (z42.1, z42.2)) (m_X10_illegal (eb_pI (eb_pI (eb_pI (eb_pI (eb_pI (eb_pI z7.2 0 37 z9.toInt32) 0 38 ((z9.toInt32 >>> (7 &&& 31)) &&& 31)) 0 41 ((z9.toInt32 >>> (12 &&& 31)) &&& 7)) 0 39 ((z9.toInt32 >>> (15 &&& 31)) &&& 31)) 0 40 ((z9.toInt32 >>> (20 &&& 31)) &&& 31)) 0 42 (eb_iushr z9.toInt32 25)))) = mm := by rw [qz9]; exact hm
        have hc : eb_M l yX10_take (Cond.code yX10_take cX10_take 6 (some .long) :: wsL_law) 0 0 D 18 cy rL ad z7.2 [.ref (ad 0), .int x2.toInt32, .int 4] (some (.long z9)) z7.2 := by rw [qz9]; exact c_X10_take l D cy ad z7.2 x2.toInt32 4 (l_X10_isMemory (show m_X10_isMemory _ _ = true from by rw [← qz4]; exact eb_b_n0 h5) (by decide) (by decide)).1 (l_X10_isMemory (show m_X10_isMemory _ _ = true from by rw [← qz4]; exact eb_b_n0 h5) (by decide) (by decide)).2 (by decide)
        refine eb_callV (n := 2) (as := [.int x2.toInt32, .int 4]) (rest := [.ref (ad 0)]) X hw hl.1 0 hc (by decide) ⟨rfl, rfl, rfl⟩ (eb_goodV wi_12_0 wi_12_1 wi_12_2 wi_1_5 wi_12_3) rfl (by decide +kernel) ⟨by decide, by decide⟩ rfl rfl (Nat.le_of_ble_eq_true rfl) dX10_instruction_62 ⟨by decide, by decide⟩ (st' := [.long z9, .ref (ad 0)]) rfl (fun H locs hw => ?_)
        refine lv_l2i (v := z9.toInt32) hx hb dX10_instruction_65 rfl ?_
        refine eb_putI (T := TX10) X hw 0 37 (by decide) ⟨rfl, rfl, rfl⟩ (by decide) rfl (fun _ h => List.mem_cons_of_mem _ (inlX10 _ h)) (List.mem_cons_of_mem _ wi_30_8) tyX10 tyX10_ok nmX10 rfl rfl rfl dX10_instruction_66 (fun H locs hw => ?_)
        refine lv_aload_n hx hb dX10_instruction_69 rfl (lv_at hl 1 rfl) ?_
        refine lv_aload_n hx hb dX10_instruction_70 rfl (lv_at hl 1 rfl) ?_
        refine eb_get (T := TX10) X hw 0 37 (by decide) ⟨rfl, rfl, rfl⟩ (by decide) (fun _ h => List.mem_cons_of_mem _ (inlX10 _ h)) (List.mem_cons_of_mem _ wi_30_8) (v := .int z9.toInt32) rfl dX10_instruction_71 ?_
        refine lv_bipush (v := 7) hx hb dX10_instruction_74 (by decide) ?_
        refine lv_ishr hx hb dX10_instruction_76 ?_
        refine lv_bipush (v := 31) hx hb dX10_instruction_77 (by decide) ?_
        refine lv_iand hx hb dX10_instruction_79 ?_
        refine eb_putI (T := TX10) X hw 0 38 (by decide) ⟨rfl, rfl, rfl⟩ (by decide) rfl (fun _ h => List.mem_cons_of_mem _ (inlX10 _ h)) (List.mem_cons_of_mem _ wi_30_9) tyX10 tyX10_ok nmX10 rfl rfl rfl dX10_instruction_80 (fun H locs hw => ?_)
        refine lv_aload_n hx hb dX10_instruction_83 rfl (lv_at hl 1 rfl) ?_
        refine lv_aload_n hx hb dX10_instruction_84 rfl (lv_at hl 1 rfl) ?_
        refine eb_get (T := TX10) X hw 0 37 (by decide) ⟨rfl, rfl, rfl⟩ (by decide) (fun _ h => List.mem_cons_of_mem _ (inlX10 _ h)) (List.mem_cons_of_mem _ wi_30_8) (v := .int z9.toInt32) rfl dX10_instruction_85 ?_
        refine lv_bipush (v := 12) hx hb dX10_instruction_88 (by decide) ?_
        refine lv_ishr hx hb dX10_instruction_90 ?_
        refine lv_bipush (v := 7) hx hb dX10_instruction_91 (by decide) ?_
        refine lv_iand hx hb dX10_instruction_93 ?_
        refine eb_putI (T := TX10) X hw 0 41 (by decide) ⟨rfl, rfl, rfl⟩ (by decide) rfl (fun _ h => List.mem_cons_of_mem _ (inlX10 _ h)) (List.mem_cons_of_mem _ wi_30_10) tyX10 tyX10_ok nmX10 rfl rfl rfl dX10_instruction_94 (fun H locs hw => ?_)
        refine lv_aload_n hx hb dX10_instruction_97 rfl (lv_at hl 1 rfl) ?_
        refine lv_aload_n hx hb dX10_instruction_98 rfl (lv_at hl 1 rfl) ?_
        refine eb_get (T := TX10) X hw 0 37 (by decide) ⟨rfl, rfl, rfl⟩ (by decide) (fun _ h => List.mem_cons_of_mem _ (inlX10 _ h)) (List.mem_cons_of_mem _ wi_30_8) (v := .int z9.toInt32) rfl dX10_instruction_99 ?_
        refine lv_bipush (v := 15) hx hb dX10_instruction_102 (by decide) ?_
        refine lv_ishr hx hb dX10_instruction_104 ?_
        refine lv_bipush (v := 31) hx hb dX10_instruction_105 (by decide) ?_
        refine lv_iand hx hb dX10_instruction_107 ?_
        refine eb_putI (T := TX10) X hw 0 39 (by decide) ⟨rfl, rfl, rfl⟩ (by decide) rfl (fun _ h => List.mem_cons_of_mem _ (inlX10 _ h)) (List.mem_cons_of_mem _ wi_30_11) tyX10 tyX10_ok nmX10 rfl rfl rfl dX10_instruction_108 (fun H locs hw => ?_)
        refine lv_aload_n hx hb dX10_instruction_111 rfl (lv_at hl 1 rfl) ?_
        refine lv_aload_n hx hb dX10_instruction_112 rfl (lv_at hl 1 rfl) ?_
        refine eb_get (T := TX10) X hw 0 37 (by decide) ⟨rfl, rfl, rfl⟩ (by decide) (fun _ h => List.mem_cons_of_mem _ (inlX10 _ h)) (List.mem_cons_of_mem _ wi_30_8) (v := .int z9.toInt32) rfl dX10_instruction_113 ?_
        refine lv_bipush (v := 20) hx hb dX10_instruction_116 (by decide) ?_
        refine lv_ishr hx hb dX10_instruction_118 ?_
        refine lv_bipush (v := 31) hx hb dX10_instruction_119 (by decide) ?_
        refine lv_iand hx hb dX10_instruction_121 ?_
        refine eb_putI (T := TX10) X hw 0 40 (by decide) ⟨rfl, rfl, rfl⟩ (by decide) rfl (fun _ h => List.mem_cons_of_mem _ (inlX10 _ h)) (List.mem_cons_of_mem _ wi_30_12) tyX10 tyX10_ok nmX10 rfl rfl rfl dX10_instruction_122 (fun H locs hw => ?_)
        refine lv_aload_n hx hb dX10_instruction_125 rfl (lv_at hl 1 rfl) ?_
        refine lv_aload_n hx hb dX10_instruction_126 rfl (lv_at hl 1 rfl) ?_
        refine eb_get (T := TX10) X hw 0 37 (by decide) ⟨rfl, rfl, rfl⟩ (by decide) (fun _ h => List.mem_cons_of_mem _ (inlX10 _ h)) (List.mem_cons_of_mem _ wi_30_8) (v := .int z9.toInt32) rfl dX10_instruction_127 ?_
        refine lv_bipush (v := 25) hx hb dX10_instruction_130 (by decide) ?_
        refine lv_iushr (v := eb_iushr z9.toInt32 25) hx hb dX10_instruction_132 rfl ?_
        refine eb_putI (T := TX10) X hw 0 42 (by decide) ⟨rfl, rfl, rfl⟩ (by decide) rfl (fun _ h => List.mem_cons_of_mem _ (inlX10 _ h)) (List.mem_cons_of_mem _ wi_30_13) tyX10 tyX10_ok nmX10 rfl rfl rfl dX10_instruction_133 (fun H locs hw => ?_)
        refine lv_aload_n hx hb dX10_instruction_136 rfl (lv_at hl 1 rfl) ?_
        refine eb_get (T := TX10) X hw 0 37 (by decide) ⟨rfl, rfl, rfl⟩ (by decide) (fun _ h => List.mem_cons_of_mem _ (inlX10 _ h)) (List.mem_cons_of_mem _ wi_30_8) (v := .int z9.toInt32) rfl dX10_instruction_137 ?_
        refine lv_bipush (v := 127) hx hb dX10_instruction_140 (by decide) ?_
        refine lv_iand hx hb dX10_instruction_142 ?_
        by_cases h10 : (z9.toInt32 &&& 127) = 3
        · have hm := (if_pos h10).symm.trans hm
          refine lv_lookup (off := 210) (tgt := 353) hx hb dX10_instruction_143 (by decide) (by rw [h10]; decide) (by decide) ?_
          refine lv_aload_n hx hb dX10_instruction_353 rfl (lv_at hl 1 rfl) ?_
          obtain ⟨z11, qz11⟩ : ∃ t : Int32 × eb_St, t = m_X10_loads (eb_pI (eb_pI (eb_pI (eb_pI (eb_pI (eb_pI z7.2 0 37 z9.toInt32) 0 38 ((z9.toInt32 >>> (7 &&& 31)) &&& 31)) 0 41 ((z9.toInt32 >>> (12 &&& 31)) &&& 7)) 0 39 ((z9.toInt32 >>> (15 &&& 31)) &&& 31)) 0 40 ((z9.toInt32 >>> (20 &&& 31)) &&& 31)) 0 42 (eb_iushr z9.toInt32 25)) := ⟨_, rfl⟩
          have hm : (z11.1, z11.2) = mm := by rw [qz11]; exact hm
          have jz11 : rJ z11.2 := J_X10_loads qz11.symm (show rJ (eb_pI (eb_pI (eb_pI (eb_pI (eb_pI z7.2 0 37 z9.toInt32) 0 38 ((z9.toInt32 >>> (7 &&& 31)) &&& 31)) 0 41 ((z9.toInt32 >>> (12 &&& 31)) &&& 7)) 0 39 ((z9.toInt32 >>> (15 &&& 31)) &&& 31)) 0 40 ((z9.toInt32 >>> (20 &&& 31)) &&& 31)) from (rJ_s2 (show rJ (eb_pI (eb_pI (eb_pI (eb_pI z7.2 0 37 z9.toInt32) 0 38 ((z9.toInt32 >>> (7 &&& 31)) &&& 31)) 0 41 ((z9.toInt32 >>> (12 &&& 31)) &&& 7)) 0 39 ((z9.toInt32 >>> (15 &&& 31)) &&& 31)) from (rJ_s1 (show rJ (eb_pI (eb_pI (eb_pI z7.2 0 37 z9.toInt32) 0 38 ((z9.toInt32 >>> (7 &&& 31)) &&& 31)) 0 41 ((z9.toInt32 >>> (12 &&& 31)) &&& 7)) from (rJ_f3 (show rJ (eb_pI (eb_pI z7.2 0 37 z9.toInt32) 0 38 ((z9.toInt32 >>> (7 &&& 31)) &&& 31)) from (rJ_rd jz7 (pk_andIn _ 5 (by decide) (by decide)))) (pk_andIn _ 3 (by decide) (by decide)))) (pk_andIn _ 5 (by decide) (by decide)))) (pk_andIn _ 5 (by decide) (by decide))))
          have hc : eb_M l yX10_loads (Cond.code yX10_loads cX10_loads 7 (some .int) :: wsL_law) 5 118 D 18 cy rL ad (eb_pI (eb_pI (eb_pI (eb_pI (eb_pI (eb_pI z7.2 0 37 z9.toInt32) 0 38 ((z9.toInt32 >>> (7 &&& 31)) &&& 31)) 0 41 ((z9.toInt32 >>> (12 &&& 31)) &&& 7)) 0 39 ((z9.toInt32 >>> (15 &&& 31)) &&& 31)) 0 40 ((z9.toInt32 >>> (20 &&& 31)) &&& 31)) 0 42 (eb_iushr z9.toInt32 25)) [.ref (ad 0)] (some (.int z11.1)) z11.2 := by rw [qz11]; exact c_X10_loads l D cy ad (eb_pI (eb_pI (eb_pI (eb_pI (eb_pI (eb_pI z7.2 0 37 z9.toInt32) 0 38 ((z9.toInt32 >>> (7 &&& 31)) &&& 31)) 0 41 ((z9.toInt32 >>> (12 &&& 31)) &&& 7)) 0 39 ((z9.toInt32 >>> (15 &&& 31)) &&& 31)) 0 40 ((z9.toInt32 >>> (20 &&& 31)) &&& 31)) 0 42 (eb_iushr z9.toInt32 25)) (show rJ (eb_pI (eb_pI (eb_pI (eb_pI (eb_pI z7.2 0 37 z9.toInt32) 0 38 ((z9.toInt32 >>> (7 &&& 31)) &&& 31)) 0 41 ((z9.toInt32 >>> (12 &&& 31)) &&& 7)) 0 39 ((z9.toInt32 >>> (15 &&& 31)) &&& 31)) 0 40 ((z9.toInt32 >>> (20 &&& 31)) &&& 31)) from (rJ_s2 (show rJ (eb_pI (eb_pI (eb_pI (eb_pI z7.2 0 37 z9.toInt32) 0 38 ((z9.toInt32 >>> (7 &&& 31)) &&& 31)) 0 41 ((z9.toInt32 >>> (12 &&& 31)) &&& 7)) 0 39 ((z9.toInt32 >>> (15 &&& 31)) &&& 31)) from (rJ_s1 (show rJ (eb_pI (eb_pI (eb_pI z7.2 0 37 z9.toInt32) 0 38 ((z9.toInt32 >>> (7 &&& 31)) &&& 31)) 0 41 ((z9.toInt32 >>> (12 &&& 31)) &&& 7)) from (rJ_f3 (show rJ (eb_pI (eb_pI z7.2 0 37 z9.toInt32) 0 38 ((z9.toInt32 >>> (7 &&& 31)) &&& 31)) from (rJ_rd jz7 (pk_andIn _ 5 (by decide) (by decide)))) (pk_andIn _ 3 (by decide) (by decide)))) (pk_andIn _ 5 (by decide) (by decide)))) (pk_andIn _ 5 (by decide) (by decide))))
          refine eb_callV (n := 0) (as := []) (rest := []) X hw hl.1 0 hc (by decide) ⟨rfl, rfl, rfl⟩ (eb_goodV wi_33_16 wi_33_17 wi_33_18 wi_1_5 wi_33_19) rfl (by decide +kernel) ⟨by decide, by decide⟩ rfl rfl (Nat.le_of_ble_eq_true rfl) dX10_instruction_354 ⟨by decide, by decide⟩ (st' := [.int z11.1]) rfl (fun H locs hw => ?_)
          subst hm
          exact eb_iret X hw rfl rfl rfl dX10_instruction_357
        · have hm := (if_neg h10).symm.trans hm
          by_cases h12 : (z9.toInt32 &&& 127) = 15
          · have hm := (if_pos h12).symm.trans hm
            refine lv_lookup (off := 240) (tgt := 383) hx hb dX10_instruction_143 (by decide) (by rw [h12]; decide) (by decide) ?_
            refine lv_aload_n hx hb dX10_instruction_383 rfl (lv_at hl 1 rfl) ?_
            refine eb_get (T := TX10) X hw 0 41 (by decide) ⟨rfl, rfl, rfl⟩ (by decide) (fun _ h => List.mem_cons_of_mem _ (inlX10 _ h)) (List.mem_cons_of_mem _ wi_30_10) (v := .int ((z9.toInt32 >>> (12 &&& 31)) &&& 7)) rfl dX10_instruction_384 ?_
            refine lv_iconst (v := 1) hx hb dX10_instruction_387 (by decide) ?_
            refine lv_icmp_le (tgt := 398) hx hb dX10_instruction_388 (by decide) (fun h13 => ?_) (fun h13 => ?_)
            · have hm := (if_pos h13).symm.trans hm
              refine lv_aload_n hx hb dX10_instruction_398 rfl (lv_at hl 1 rfl) ?_
              obtain ⟨z14, qz14⟩ : ∃ t : Int32 × eb_St, t = m_X10_goesOn (eb_pI (eb_pI (eb_pI (eb_pI (eb_pI (eb_pI z7.2 0 37 z9.toInt32) 0 38 ((z9.toInt32 >>> (7 &&& 31)) &&& 31)) 0 41 ((z9.toInt32 >>> (12 &&& 31)) &&& 7)) 0 39 ((z9.toInt32 >>> (15 &&& 31)) &&& 31)) 0 40 ((z9.toInt32 >>> (20 &&& 31)) &&& 31)) 0 42 (eb_iushr z9.toInt32 25)) := ⟨_, rfl⟩
              have hm : (z14.1, z14.2) = mm := by rw [qz14]; exact hm
              have jz14 : rJ z14.2 := J_X10_goesOn qz14.symm (show rJ (eb_pI (eb_pI (eb_pI (eb_pI (eb_pI z7.2 0 37 z9.toInt32) 0 38 ((z9.toInt32 >>> (7 &&& 31)) &&& 31)) 0 41 ((z9.toInt32 >>> (12 &&& 31)) &&& 7)) 0 39 ((z9.toInt32 >>> (15 &&& 31)) &&& 31)) 0 40 ((z9.toInt32 >>> (20 &&& 31)) &&& 31)) from (rJ_s2 (show rJ (eb_pI (eb_pI (eb_pI (eb_pI z7.2 0 37 z9.toInt32) 0 38 ((z9.toInt32 >>> (7 &&& 31)) &&& 31)) 0 41 ((z9.toInt32 >>> (12 &&& 31)) &&& 7)) 0 39 ((z9.toInt32 >>> (15 &&& 31)) &&& 31)) from (rJ_s1 (show rJ (eb_pI (eb_pI (eb_pI z7.2 0 37 z9.toInt32) 0 38 ((z9.toInt32 >>> (7 &&& 31)) &&& 31)) 0 41 ((z9.toInt32 >>> (12 &&& 31)) &&& 7)) from (rJ_f3 (show rJ (eb_pI (eb_pI z7.2 0 37 z9.toInt32) 0 38 ((z9.toInt32 >>> (7 &&& 31)) &&& 31)) from (rJ_rd jz7 (pk_andIn _ 5 (by decide) (by decide)))) (pk_andIn _ 3 (by decide) (by decide)))) (pk_andIn _ 5 (by decide) (by decide)))) (pk_andIn _ 5 (by decide) (by decide))))
              have hc : eb_M l yX10_goesOn (Cond.code yX10_goesOn cX10_goesOn 1 (some .int) :: wsL_law) 1 20 D 18 cy rL ad (eb_pI (eb_pI (eb_pI (eb_pI (eb_pI (eb_pI z7.2 0 37 z9.toInt32) 0 38 ((z9.toInt32 >>> (7 &&& 31)) &&& 31)) 0 41 ((z9.toInt32 >>> (12 &&& 31)) &&& 7)) 0 39 ((z9.toInt32 >>> (15 &&& 31)) &&& 31)) 0 40 ((z9.toInt32 >>> (20 &&& 31)) &&& 31)) 0 42 (eb_iushr z9.toInt32 25)) [.ref (ad 0)] (some (.int z14.1)) z14.2 := by rw [qz14]; exact c_X10_goesOn l D cy ad (eb_pI (eb_pI (eb_pI (eb_pI (eb_pI (eb_pI z7.2 0 37 z9.toInt32) 0 38 ((z9.toInt32 >>> (7 &&& 31)) &&& 31)) 0 41 ((z9.toInt32 >>> (12 &&& 31)) &&& 7)) 0 39 ((z9.toInt32 >>> (15 &&& 31)) &&& 31)) 0 40 ((z9.toInt32 >>> (20 &&& 31)) &&& 31)) 0 42 (eb_iushr z9.toInt32 25)) (show rJ (eb_pI (eb_pI (eb_pI (eb_pI (eb_pI z7.2 0 37 z9.toInt32) 0 38 ((z9.toInt32 >>> (7 &&& 31)) &&& 31)) 0 41 ((z9.toInt32 >>> (12 &&& 31)) &&& 7)) 0 39 ((z9.toInt32 >>> (15 &&& 31)) &&& 31)) 0 40 ((z9.toInt32 >>> (20 &&& 31)) &&& 31)) from (rJ_s2 (show rJ (eb_pI (eb_pI (eb_pI (eb_pI z7.2 0 37 z9.toInt32) 0 38 ((z9.toInt32 >>> (7 &&& 31)) &&& 31)) 0 41 ((z9.toInt32 >>> (12 &&& 31)) &&& 7)) 0 39 ((z9.toInt32 >>> (15 &&& 31)) &&& 31)) from (rJ_s1 (show rJ (eb_pI (eb_pI (eb_pI z7.2 0 37 z9.toInt32) 0 38 ((z9.toInt32 >>> (7 &&& 31)) &&& 31)) 0 41 ((z9.toInt32 >>> (12 &&& 31)) &&& 7)) from (rJ_f3 (show rJ (eb_pI (eb_pI z7.2 0 37 z9.toInt32) 0 38 ((z9.toInt32 >>> (7 &&& 31)) &&& 31)) from (rJ_rd jz7 (pk_andIn _ 5 (by decide) (by decide)))) (pk_andIn _ 3 (by decide) (by decide)))) (pk_andIn _ 5 (by decide) (by decide)))) (pk_andIn _ 5 (by decide) (by decide))))
              refine eb_callV (n := 0) (as := []) (rest := []) X hw hl.1 0 hc (by decide) ⟨rfl, rfl, rfl⟩ (eb_goodV wi_32_10 wi_32_11 wi_32_12 wi_1_5 wi_32_13) rfl (by decide +kernel) ⟨by decide, by decide⟩ rfl rfl (Nat.le_of_ble_eq_true rfl) dX10_instruction_399 ⟨by decide, by decide⟩ (st' := [.int z14.1]) rfl (fun H locs hw => ?_)
              subst hm
              exact eb_iret X hw rfl rfl rfl dX10_instruction_402
            · have hm := (if_neg h13).symm.trans hm
              refine lv_aload_n hx hb dX10_instruction_391 rfl (lv_at hl 1 rfl) ?_
              obtain ⟨z15, qz15⟩ : ∃ t : Int32 × eb_St, t = m_X10_illegal (eb_pI (eb_pI (eb_pI (eb_pI (eb_pI (eb_pI z7.2 0 37 z9.toInt32) 0 38 ((z9.toInt32 >>> (7 &&& 31)) &&& 31)) 0 41 ((z9.toInt32 >>> (12 &&& 31)) &&& 7)) 0 39 ((z9.toInt32 >>> (15 &&& 31)) &&& 31)) 0 40 ((z9.toInt32 >>> (20 &&& 31)) &&& 31)) 0 42 (eb_iushr z9.toInt32 25)) := ⟨_, rfl⟩
              have hm : (z15.1, z15.2) = mm := by rw [qz15]; exact hm
              have jz15 : rJ z15.2 := J_X10_illegal qz15.symm (show rJ (eb_pI (eb_pI (eb_pI (eb_pI (eb_pI z7.2 0 37 z9.toInt32) 0 38 ((z9.toInt32 >>> (7 &&& 31)) &&& 31)) 0 41 ((z9.toInt32 >>> (12 &&& 31)) &&& 7)) 0 39 ((z9.toInt32 >>> (15 &&& 31)) &&& 31)) 0 40 ((z9.toInt32 >>> (20 &&& 31)) &&& 31)) from (rJ_s2 (show rJ (eb_pI (eb_pI (eb_pI (eb_pI z7.2 0 37 z9.toInt32) 0 38 ((z9.toInt32 >>> (7 &&& 31)) &&& 31)) 0 41 ((z9.toInt32 >>> (12 &&& 31)) &&& 7)) 0 39 ((z9.toInt32 >>> (15 &&& 31)) &&& 31)) from (rJ_s1 (show rJ (eb_pI (eb_pI (eb_pI z7.2 0 37 z9.toInt32) 0 38 ((z9.toInt32 >>> (7 &&& 31)) &&& 31)) 0 41 ((z9.toInt32 >>> (12 &&& 31)) &&& 7)) from (rJ_f3 (show rJ (eb_pI (eb_pI z7.2 0 37 z9.toInt32) 0 38 ((z9.toInt32 >>> (7 &&& 31)) &&& 31)) from (rJ_rd jz7 (pk_andIn _ 5 (by decide) (by decide)))) (pk_andIn _ 3 (by decide) (by decide)))) (pk_andIn _ 5 (by decide) (by decide)))) (pk_andIn _ 5 (by decide) (by decide))))
              have hc : eb_M l yX10_illegal (Cond.code yX10_illegal cX10_illegal 1 (some .int) :: wsL_law) 1 23 D 18 cy rL ad (eb_pI (eb_pI (eb_pI (eb_pI (eb_pI (eb_pI z7.2 0 37 z9.toInt32) 0 38 ((z9.toInt32 >>> (7 &&& 31)) &&& 31)) 0 41 ((z9.toInt32 >>> (12 &&& 31)) &&& 7)) 0 39 ((z9.toInt32 >>> (15 &&& 31)) &&& 31)) 0 40 ((z9.toInt32 >>> (20 &&& 31)) &&& 31)) 0 42 (eb_iushr z9.toInt32 25)) [.ref (ad 0)] (some (.int z15.1)) z15.2 := by rw [qz15]; exact c_X10_illegal l D cy ad (eb_pI (eb_pI (eb_pI (eb_pI (eb_pI (eb_pI z7.2 0 37 z9.toInt32) 0 38 ((z9.toInt32 >>> (7 &&& 31)) &&& 31)) 0 41 ((z9.toInt32 >>> (12 &&& 31)) &&& 7)) 0 39 ((z9.toInt32 >>> (15 &&& 31)) &&& 31)) 0 40 ((z9.toInt32 >>> (20 &&& 31)) &&& 31)) 0 42 (eb_iushr z9.toInt32 25)) (show rJ (eb_pI (eb_pI (eb_pI (eb_pI (eb_pI z7.2 0 37 z9.toInt32) 0 38 ((z9.toInt32 >>> (7 &&& 31)) &&& 31)) 0 41 ((z9.toInt32 >>> (12 &&& 31)) &&& 7)) 0 39 ((z9.toInt32 >>> (15 &&& 31)) &&& 31)) 0 40 ((z9.toInt32 >>> (20 &&& 31)) &&& 31)) from (rJ_s2 (show rJ (eb_pI (eb_pI (eb_pI (eb_pI z7.2 0 37 z9.toInt32) 0 38 ((z9.toInt32 >>> (7 &&& 31)) &&& 31)) 0 41 ((z9.toInt32 >>> (12 &&& 31)) &&& 7)) 0 39 ((z9.toInt32 >>> (15 &&& 31)) &&& 31)) from (rJ_s1 (show rJ (eb_pI (eb_pI (eb_pI z7.2 0 37 z9.toInt32) 0 38 ((z9.toInt32 >>> (7 &&& 31)) &&& 31)) 0 41 ((z9.toInt32 >>> (12 &&& 31)) &&& 7)) from (rJ_f3 (show rJ (eb_pI (eb_pI z7.2 0 37 z9.toInt32) 0 38 ((z9.toInt32 >>> (7 &&& 31)) &&& 31)) from (rJ_rd jz7 (pk_andIn _ 5 (by decide) (by decide)))) (pk_andIn _ 3 (by decide) (by decide)))) (pk_andIn _ 5 (by decide) (by decide)))) (pk_andIn _ 5 (by decide) (by decide))))
              refine eb_callV (n := 0) (as := []) (rest := []) X hw hl.1 0 hc (by decide) ⟨rfl, rfl, rfl⟩ (eb_goodV wi_32_23 wi_33_0 wi_33_1 wi_1_5 wi_33_2) rfl (by decide +kernel) ⟨by decide, by decide⟩ rfl rfl (Nat.le_of_ble_eq_true rfl) dX10_instruction_392 ⟨by decide, by decide⟩ (st' := [.int z15.1]) rfl (fun H locs hw => ?_)
              refine lv_goto (tgt := 402) hx hb dX10_instruction_395 (by decide) ?_
              subst hm
              exact eb_iret X hw rfl rfl rfl dX10_instruction_402
          · have hm := (if_neg h12).symm.trans hm
            by_cases h16 : (z9.toInt32 &&& 127) = 19
            · have hm := (if_pos h16).symm.trans hm
              refine lv_lookup (off := 220) (tgt := 363) hx hb dX10_instruction_143 (by decide) (by rw [h16]; decide) (by decide) ?_
              refine lv_aload_n hx hb dX10_instruction_363 rfl (lv_at hl 1 rfl) ?_
              obtain ⟨z17, qz17⟩ : ∃ t : Int32 × eb_St, t = m_X10_immediate (eb_pI (eb_pI (eb_pI (eb_pI (eb_pI (eb_pI z7.2 0 37 z9.toInt32) 0 38 ((z9.toInt32 >>> (7 &&& 31)) &&& 31)) 0 41 ((z9.toInt32 >>> (12 &&& 31)) &&& 7)) 0 39 ((z9.toInt32 >>> (15 &&& 31)) &&& 31)) 0 40 ((z9.toInt32 >>> (20 &&& 31)) &&& 31)) 0 42 (eb_iushr z9.toInt32 25)) := ⟨_, rfl⟩
              have hm : (z17.1, z17.2) = mm := by rw [qz17]; exact hm
              have jz17 : rJ z17.2 := J_X10_immediate qz17.symm (show rJ (eb_pI (eb_pI (eb_pI (eb_pI (eb_pI z7.2 0 37 z9.toInt32) 0 38 ((z9.toInt32 >>> (7 &&& 31)) &&& 31)) 0 41 ((z9.toInt32 >>> (12 &&& 31)) &&& 7)) 0 39 ((z9.toInt32 >>> (15 &&& 31)) &&& 31)) 0 40 ((z9.toInt32 >>> (20 &&& 31)) &&& 31)) from (rJ_s2 (show rJ (eb_pI (eb_pI (eb_pI (eb_pI z7.2 0 37 z9.toInt32) 0 38 ((z9.toInt32 >>> (7 &&& 31)) &&& 31)) 0 41 ((z9.toInt32 >>> (12 &&& 31)) &&& 7)) 0 39 ((z9.toInt32 >>> (15 &&& 31)) &&& 31)) from (rJ_s1 (show rJ (eb_pI (eb_pI (eb_pI z7.2 0 37 z9.toInt32) 0 38 ((z9.toInt32 >>> (7 &&& 31)) &&& 31)) 0 41 ((z9.toInt32 >>> (12 &&& 31)) &&& 7)) from (rJ_f3 (show rJ (eb_pI (eb_pI z7.2 0 37 z9.toInt32) 0 38 ((z9.toInt32 >>> (7 &&& 31)) &&& 31)) from (rJ_rd jz7 (pk_andIn _ 5 (by decide) (by decide)))) (pk_andIn _ 3 (by decide) (by decide)))) (pk_andIn _ 5 (by decide) (by decide)))) (pk_andIn _ 5 (by decide) (by decide))))
              have hc : eb_M l yX10_immediate (Cond.code yX10_immediate cX10_immediate 7 (some .int) :: wsL_law) 3 65 D 18 cy rL ad (eb_pI (eb_pI (eb_pI (eb_pI (eb_pI (eb_pI z7.2 0 37 z9.toInt32) 0 38 ((z9.toInt32 >>> (7 &&& 31)) &&& 31)) 0 41 ((z9.toInt32 >>> (12 &&& 31)) &&& 7)) 0 39 ((z9.toInt32 >>> (15 &&& 31)) &&& 31)) 0 40 ((z9.toInt32 >>> (20 &&& 31)) &&& 31)) 0 42 (eb_iushr z9.toInt32 25)) [.ref (ad 0)] (some (.int z17.1)) z17.2 := by rw [qz17]; exact c_X10_immediate l D cy ad (eb_pI (eb_pI (eb_pI (eb_pI (eb_pI (eb_pI z7.2 0 37 z9.toInt32) 0 38 ((z9.toInt32 >>> (7 &&& 31)) &&& 31)) 0 41 ((z9.toInt32 >>> (12 &&& 31)) &&& 7)) 0 39 ((z9.toInt32 >>> (15 &&& 31)) &&& 31)) 0 40 ((z9.toInt32 >>> (20 &&& 31)) &&& 31)) 0 42 (eb_iushr z9.toInt32 25)) (show rJ (eb_pI (eb_pI (eb_pI (eb_pI (eb_pI z7.2 0 37 z9.toInt32) 0 38 ((z9.toInt32 >>> (7 &&& 31)) &&& 31)) 0 41 ((z9.toInt32 >>> (12 &&& 31)) &&& 7)) 0 39 ((z9.toInt32 >>> (15 &&& 31)) &&& 31)) 0 40 ((z9.toInt32 >>> (20 &&& 31)) &&& 31)) from (rJ_s2 (show rJ (eb_pI (eb_pI (eb_pI (eb_pI z7.2 0 37 z9.toInt32) 0 38 ((z9.toInt32 >>> (7 &&& 31)) &&& 31)) 0 41 ((z9.toInt32 >>> (12 &&& 31)) &&& 7)) 0 39 ((z9.toInt32 >>> (15 &&& 31)) &&& 31)) from (rJ_s1 (show rJ (eb_pI (eb_pI (eb_pI z7.2 0 37 z9.toInt32) 0 38 ((z9.toInt32 >>> (7 &&& 31)) &&& 31)) 0 41 ((z9.toInt32 >>> (12 &&& 31)) &&& 7)) from (rJ_f3 (show rJ (eb_pI (eb_pI z7.2 0 37 z9.toInt32) 0 38 ((z9.toInt32 >>> (7 &&& 31)) &&& 31)) from (rJ_rd jz7 (pk_andIn _ 5 (by decide) (by decide)))) (pk_andIn _ 3 (by decide) (by decide)))) (pk_andIn _ 5 (by decide) (by decide)))) (pk_andIn _ 5 (by decide) (by decide))))
              refine eb_callV (n := 0) (as := []) (rest := []) X hw hl.1 0 hc (by decide) ⟨rfl, rfl, rfl⟩ (eb_goodV wi_34_0 wi_34_1 wi_34_2 wi_1_5 wi_34_3) rfl (by decide +kernel) ⟨by decide, by decide⟩ rfl rfl (Nat.le_of_ble_eq_true rfl) dX10_instruction_364 ⟨by decide, by decide⟩ (st' := [.int z17.1]) rfl (fun H locs hw => ?_)
              subst hm
              exact eb_iret X hw rfl rfl rfl dX10_instruction_367
            · have hm := (if_neg h16).symm.trans hm
              by_cases h18 : (z9.toInt32 &&& 127) = 23
              · have hm := (if_pos h18).symm.trans hm
                refine lv_lookup (off := 127) (tgt := 270) hx hb dX10_instruction_143 (by decide) (by rw [h18]; decide) (by decide) ?_
                refine lv_aload_n hx hb dX10_instruction_270 rfl (lv_at hl 1 rfl) ?_
                refine lv_lload_n hx hb dX10_instruction_271 rfl (lv_at hl 0 rfl) ?_
                refine lv_aload_n hx hb dX10_instruction_272 rfl (lv_at hl 1 rfl) ?_
                refine eb_get (T := TX10) X hw 0 37 (by decide) ⟨rfl, rfl, rfl⟩ (by decide) (fun _ h => List.mem_cons_of_mem _ (inlX10 _ h)) (List.mem_cons_of_mem _ wi_30_8) (v := .int z9.toInt32) rfl dX10_instruction_273 ?_
                refine lv_sipush (v := (-4096)) hx hb dX10_instruction_276 (by decide) ?_
                refine lv_iand hx hb dX10_instruction_279 ?_
                refine lv_i2l (v := (z9.toInt32 &&& (-4096)).toInt64) hx hb dX10_instruction_280 rfl ?_
                refine lv_ladd hx hb dX10_instruction_281 ?_
                obtain ⟨z19, qz19⟩ : ∃ t : Int32 × eb_St, t = m_X10_sets (eb_pI (eb_pI (eb_pI (eb_pI (eb_pI (eb_pI z7.2 0 37 z9.toInt32) 0 38 ((z9.toInt32 >>> (7 &&& 31)) &&& 31)) 0 41 ((z9.toInt32 >>> (12 &&& 31)) &&& 7)) 0 39 ((z9.toInt32 >>> (15 &&& 31)) &&& 31)) 0 40 ((z9.toInt32 >>> (20 &&& 31)) &&& 31)) 0 42 (eb_iushr z9.toInt32 25)) (x2 + ((z9.toInt32 &&& (-4096)).toInt64)) := ⟨_, rfl⟩
                have hm : (z19.1, z19.2) = mm := by rw [qz19]; exact hm
                have jz19 : rJ z19.2 := J_X10_sets qz19.symm (show rJ (eb_pI (eb_pI (eb_pI (eb_pI (eb_pI z7.2 0 37 z9.toInt32) 0 38 ((z9.toInt32 >>> (7 &&& 31)) &&& 31)) 0 41 ((z9.toInt32 >>> (12 &&& 31)) &&& 7)) 0 39 ((z9.toInt32 >>> (15 &&& 31)) &&& 31)) 0 40 ((z9.toInt32 >>> (20 &&& 31)) &&& 31)) from (rJ_s2 (show rJ (eb_pI (eb_pI (eb_pI (eb_pI z7.2 0 37 z9.toInt32) 0 38 ((z9.toInt32 >>> (7 &&& 31)) &&& 31)) 0 41 ((z9.toInt32 >>> (12 &&& 31)) &&& 7)) 0 39 ((z9.toInt32 >>> (15 &&& 31)) &&& 31)) from (rJ_s1 (show rJ (eb_pI (eb_pI (eb_pI z7.2 0 37 z9.toInt32) 0 38 ((z9.toInt32 >>> (7 &&& 31)) &&& 31)) 0 41 ((z9.toInt32 >>> (12 &&& 31)) &&& 7)) from (rJ_f3 (show rJ (eb_pI (eb_pI z7.2 0 37 z9.toInt32) 0 38 ((z9.toInt32 >>> (7 &&& 31)) &&& 31)) from (rJ_rd jz7 (pk_andIn _ 5 (by decide) (by decide)))) (pk_andIn _ 3 (by decide) (by decide)))) (pk_andIn _ 5 (by decide) (by decide)))) (pk_andIn _ 5 (by decide) (by decide))))
                have hc : eb_M l yX10_sets (Cond.code yX10_sets cX10_sets 3 (some .int) :: wsL_law) 2 43 D 18 cy rL ad (eb_pI (eb_pI (eb_pI (eb_pI (eb_pI (eb_pI z7.2 0 37 z9.toInt32) 0 38 ((z9.toInt32 >>> (7 &&& 31)) &&& 31)) 0 41 ((z9.toInt32 >>> (12 &&& 31)) &&& 7)) 0 39 ((z9.toInt32 >>> (15 &&& 31)) &&& 31)) 0 40 ((z9.toInt32 >>> (20 &&& 31)) &&& 31)) 0 42 (eb_iushr z9.toInt32 25)) [.ref (ad 0), .long (x2 + ((z9.toInt32 &&& (-4096)).toInt64))] (some (.int z19.1)) z19.2 := by rw [qz19]; exact c_X10_sets l D cy ad (eb_pI (eb_pI (eb_pI (eb_pI (eb_pI (eb_pI z7.2 0 37 z9.toInt32) 0 38 ((z9.toInt32 >>> (7 &&& 31)) &&& 31)) 0 41 ((z9.toInt32 >>> (12 &&& 31)) &&& 7)) 0 39 ((z9.toInt32 >>> (15 &&& 31)) &&& 31)) 0 40 ((z9.toInt32 >>> (20 &&& 31)) &&& 31)) 0 42 (eb_iushr z9.toInt32 25)) (x2 + ((z9.toInt32 &&& (-4096)).toInt64)) (show rJ (eb_pI (eb_pI (eb_pI (eb_pI (eb_pI z7.2 0 37 z9.toInt32) 0 38 ((z9.toInt32 >>> (7 &&& 31)) &&& 31)) 0 41 ((z9.toInt32 >>> (12 &&& 31)) &&& 7)) 0 39 ((z9.toInt32 >>> (15 &&& 31)) &&& 31)) 0 40 ((z9.toInt32 >>> (20 &&& 31)) &&& 31)) from (rJ_s2 (show rJ (eb_pI (eb_pI (eb_pI (eb_pI z7.2 0 37 z9.toInt32) 0 38 ((z9.toInt32 >>> (7 &&& 31)) &&& 31)) 0 41 ((z9.toInt32 >>> (12 &&& 31)) &&& 7)) 0 39 ((z9.toInt32 >>> (15 &&& 31)) &&& 31)) from (rJ_s1 (show rJ (eb_pI (eb_pI (eb_pI z7.2 0 37 z9.toInt32) 0 38 ((z9.toInt32 >>> (7 &&& 31)) &&& 31)) 0 41 ((z9.toInt32 >>> (12 &&& 31)) &&& 7)) from (rJ_f3 (show rJ (eb_pI (eb_pI z7.2 0 37 z9.toInt32) 0 38 ((z9.toInt32 >>> (7 &&& 31)) &&& 31)) from (rJ_rd jz7 (pk_andIn _ 5 (by decide) (by decide)))) (pk_andIn _ 3 (by decide) (by decide)))) (pk_andIn _ 5 (by decide) (by decide)))) (pk_andIn _ 5 (by decide) (by decide))))
                refine eb_callV (n := 1) (as := [.long (x2 + ((z9.toInt32 &&& (-4096)).toInt64))]) (rest := []) X hw hl.1 0 hc (by decide) ⟨rfl, rfl, rfl⟩ (eb_goodV wi_32_2 wi_32_3 wi_32_4 wi_1_5 wi_32_5) rfl (by decide +kernel) ⟨by decide, by decide⟩ rfl rfl (Nat.le_of_ble_eq_true rfl) dX10_instruction_282 ⟨by decide, by decide⟩ (st' := [.int z19.1]) rfl (fun H locs hw => ?_)
                subst hm
                exact eb_iret X hw rfl rfl rfl dX10_instruction_285
              · have hm := (if_neg h18).symm.trans hm
                by_cases h20 : (z9.toInt32 &&& 127) = 27
                · have hm := (if_pos h20).symm.trans hm
                  refine lv_lookup (off := 225) (tgt := 368) hx hb dX10_instruction_143 (by decide) (by rw [h20]; decide) (by decide) ?_
                  refine lv_aload_n hx hb dX10_instruction_368 rfl (lv_at hl 1 rfl) ?_
                  obtain ⟨z21, qz21⟩ : ∃ t : Int32 × eb_St, t = m_X10_immediateW (eb_pI (eb_pI (eb_pI (eb_pI (eb_pI (eb_pI z7.2 0 37 z9.toInt32) 0 38 ((z9.toInt32 >>> (7 &&& 31)) &&& 31)) 0 41 ((z9.toInt32 >>> (12 &&& 31)) &&& 7)) 0 39 ((z9.toInt32 >>> (15 &&& 31)) &&& 31)) 0 40 ((z9.toInt32 >>> (20 &&& 31)) &&& 31)) 0 42 (eb_iushr z9.toInt32 25)) := ⟨_, rfl⟩
                  have hm : (z21.1, z21.2) = mm := by rw [qz21]; exact hm
                  have jz21 : rJ z21.2 := J_X10_immediateW qz21.symm (show rJ (eb_pI (eb_pI (eb_pI (eb_pI (eb_pI z7.2 0 37 z9.toInt32) 0 38 ((z9.toInt32 >>> (7 &&& 31)) &&& 31)) 0 41 ((z9.toInt32 >>> (12 &&& 31)) &&& 7)) 0 39 ((z9.toInt32 >>> (15 &&& 31)) &&& 31)) 0 40 ((z9.toInt32 >>> (20 &&& 31)) &&& 31)) from (rJ_s2 (show rJ (eb_pI (eb_pI (eb_pI (eb_pI z7.2 0 37 z9.toInt32) 0 38 ((z9.toInt32 >>> (7 &&& 31)) &&& 31)) 0 41 ((z9.toInt32 >>> (12 &&& 31)) &&& 7)) 0 39 ((z9.toInt32 >>> (15 &&& 31)) &&& 31)) from (rJ_s1 (show rJ (eb_pI (eb_pI (eb_pI z7.2 0 37 z9.toInt32) 0 38 ((z9.toInt32 >>> (7 &&& 31)) &&& 31)) 0 41 ((z9.toInt32 >>> (12 &&& 31)) &&& 7)) from (rJ_f3 (show rJ (eb_pI (eb_pI z7.2 0 37 z9.toInt32) 0 38 ((z9.toInt32 >>> (7 &&& 31)) &&& 31)) from (rJ_rd jz7 (pk_andIn _ 5 (by decide) (by decide)))) (pk_andIn _ 3 (by decide) (by decide)))) (pk_andIn _ 5 (by decide) (by decide)))) (pk_andIn _ 5 (by decide) (by decide))))
                  have hc : eb_M l yX10_immediateW (Cond.code yX10_immediateW cX10_immediateW 2 (some .int) :: wsL_law) 3 65 D 18 cy rL ad (eb_pI (eb_pI (eb_pI (eb_pI (eb_pI (eb_pI z7.2 0 37 z9.toInt32) 0 38 ((z9.toInt32 >>> (7 &&& 31)) &&& 31)) 0 41 ((z9.toInt32 >>> (12 &&& 31)) &&& 7)) 0 39 ((z9.toInt32 >>> (15 &&& 31)) &&& 31)) 0 40 ((z9.toInt32 >>> (20 &&& 31)) &&& 31)) 0 42 (eb_iushr z9.toInt32 25)) [.ref (ad 0)] (some (.int z21.1)) z21.2 := by rw [qz21]; exact c_X10_immediateW l D cy ad (eb_pI (eb_pI (eb_pI (eb_pI (eb_pI (eb_pI z7.2 0 37 z9.toInt32) 0 38 ((z9.toInt32 >>> (7 &&& 31)) &&& 31)) 0 41 ((z9.toInt32 >>> (12 &&& 31)) &&& 7)) 0 39 ((z9.toInt32 >>> (15 &&& 31)) &&& 31)) 0 40 ((z9.toInt32 >>> (20 &&& 31)) &&& 31)) 0 42 (eb_iushr z9.toInt32 25)) (show rJ (eb_pI (eb_pI (eb_pI (eb_pI (eb_pI z7.2 0 37 z9.toInt32) 0 38 ((z9.toInt32 >>> (7 &&& 31)) &&& 31)) 0 41 ((z9.toInt32 >>> (12 &&& 31)) &&& 7)) 0 39 ((z9.toInt32 >>> (15 &&& 31)) &&& 31)) 0 40 ((z9.toInt32 >>> (20 &&& 31)) &&& 31)) from (rJ_s2 (show rJ (eb_pI (eb_pI (eb_pI (eb_pI z7.2 0 37 z9.toInt32) 0 38 ((z9.toInt32 >>> (7 &&& 31)) &&& 31)) 0 41 ((z9.toInt32 >>> (12 &&& 31)) &&& 7)) 0 39 ((z9.toInt32 >>> (15 &&& 31)) &&& 31)) from (rJ_s1 (show rJ (eb_pI (eb_pI (eb_pI z7.2 0 37 z9.toInt32) 0 38 ((z9.toInt32 >>> (7 &&& 31)) &&& 31)) 0 41 ((z9.toInt32 >>> (12 &&& 31)) &&& 7)) from (rJ_f3 (show rJ (eb_pI (eb_pI z7.2 0 37 z9.toInt32) 0 38 ((z9.toInt32 >>> (7 &&& 31)) &&& 31)) from (rJ_rd jz7 (pk_andIn _ 5 (by decide) (by decide)))) (pk_andIn _ 3 (by decide) (by decide)))) (pk_andIn _ 5 (by decide) (by decide)))) (pk_andIn _ 5 (by decide) (by decide))))
                  refine eb_callV (n := 0) (as := []) (rest := []) X hw hl.1 0 hc (by decide) ⟨rfl, rfl, rfl⟩ (eb_goodV wi_34_4 wi_34_5 wi_34_6 wi_1_5 wi_34_7) rfl (by decide +kernel) ⟨by decide, by decide⟩ rfl rfl (Nat.le_of_ble_eq_true rfl) dX10_instruction_369 ⟨by decide, by decide⟩ (st' := [.int z21.1]) rfl (fun H locs hw => ?_)
                  subst hm
                  exact eb_iret X hw rfl rfl rfl dX10_instruction_372
                · have hm := (if_neg h20).symm.trans hm
                  by_cases h22 : (z9.toInt32 &&& 127) = 35
                  · have hm := (if_pos h22).symm.trans hm
                    refine lv_lookup (off := 215) (tgt := 358) hx hb dX10_instruction_143 (by decide) (by rw [h22]; decide) (by decide) ?_
                    refine lv_aload_n hx hb dX10_instruction_358 rfl (lv_at hl 1 rfl) ?_
                    obtain ⟨z23, qz23⟩ : ∃ t : Int32 × eb_St, t = m_X10_stores (eb_pI (eb_pI (eb_pI (eb_pI (eb_pI (eb_pI z7.2 0 37 z9.toInt32) 0 38 ((z9.toInt32 >>> (7 &&& 31)) &&& 31)) 0 41 ((z9.toInt32 >>> (12 &&& 31)) &&& 7)) 0 39 ((z9.toInt32 >>> (15 &&& 31)) &&& 31)) 0 40 ((z9.toInt32 >>> (20 &&& 31)) &&& 31)) 0 42 (eb_iushr z9.toInt32 25)) := ⟨_, rfl⟩
                    have hm : (z23.1, z23.2) = mm := by rw [qz23]; exact hm
                    have jz23 : rJ z23.2 := J_X10_stores qz23.symm (show rJ (eb_pI (eb_pI (eb_pI (eb_pI (eb_pI z7.2 0 37 z9.toInt32) 0 38 ((z9.toInt32 >>> (7 &&& 31)) &&& 31)) 0 41 ((z9.toInt32 >>> (12 &&& 31)) &&& 7)) 0 39 ((z9.toInt32 >>> (15 &&& 31)) &&& 31)) 0 40 ((z9.toInt32 >>> (20 &&& 31)) &&& 31)) from (rJ_s2 (show rJ (eb_pI (eb_pI (eb_pI (eb_pI z7.2 0 37 z9.toInt32) 0 38 ((z9.toInt32 >>> (7 &&& 31)) &&& 31)) 0 41 ((z9.toInt32 >>> (12 &&& 31)) &&& 7)) 0 39 ((z9.toInt32 >>> (15 &&& 31)) &&& 31)) from (rJ_s1 (show rJ (eb_pI (eb_pI (eb_pI z7.2 0 37 z9.toInt32) 0 38 ((z9.toInt32 >>> (7 &&& 31)) &&& 31)) 0 41 ((z9.toInt32 >>> (12 &&& 31)) &&& 7)) from (rJ_f3 (show rJ (eb_pI (eb_pI z7.2 0 37 z9.toInt32) 0 38 ((z9.toInt32 >>> (7 &&& 31)) &&& 31)) from (rJ_rd jz7 (pk_andIn _ 5 (by decide) (by decide)))) (pk_andIn _ 3 (by decide) (by decide)))) (pk_andIn _ 5 (by decide) (by decide)))) (pk_andIn _ 5 (by decide) (by decide))))
                    have hc : eb_M l yX10_stores (Cond.code yX10_stores cX10_stores 4 (some .int) :: wsL_law) 5 118 D 18 cy rL ad (eb_pI (eb_pI (eb_pI (eb_pI (eb_pI (eb_pI z7.2 0 37 z9.toInt32) 0 38 ((z9.toInt32 >>> (7 &&& 31)) &&& 31)) 0 41 ((z9.toInt32 >>> (12 &&& 31)) &&& 7)) 0 39 ((z9.toInt32 >>> (15 &&& 31)) &&& 31)) 0 40 ((z9.toInt32 >>> (20 &&& 31)) &&& 31)) 0 42 (eb_iushr z9.toInt32 25)) [.ref (ad 0)] (some (.int z23.1)) z23.2 := by rw [qz23]; exact c_X10_stores l D cy ad (eb_pI (eb_pI (eb_pI (eb_pI (eb_pI (eb_pI z7.2 0 37 z9.toInt32) 0 38 ((z9.toInt32 >>> (7 &&& 31)) &&& 31)) 0 41 ((z9.toInt32 >>> (12 &&& 31)) &&& 7)) 0 39 ((z9.toInt32 >>> (15 &&& 31)) &&& 31)) 0 40 ((z9.toInt32 >>> (20 &&& 31)) &&& 31)) 0 42 (eb_iushr z9.toInt32 25)) (show rJ (eb_pI (eb_pI (eb_pI (eb_pI (eb_pI z7.2 0 37 z9.toInt32) 0 38 ((z9.toInt32 >>> (7 &&& 31)) &&& 31)) 0 41 ((z9.toInt32 >>> (12 &&& 31)) &&& 7)) 0 39 ((z9.toInt32 >>> (15 &&& 31)) &&& 31)) 0 40 ((z9.toInt32 >>> (20 &&& 31)) &&& 31)) from (rJ_s2 (show rJ (eb_pI (eb_pI (eb_pI (eb_pI z7.2 0 37 z9.toInt32) 0 38 ((z9.toInt32 >>> (7 &&& 31)) &&& 31)) 0 41 ((z9.toInt32 >>> (12 &&& 31)) &&& 7)) 0 39 ((z9.toInt32 >>> (15 &&& 31)) &&& 31)) from (rJ_s1 (show rJ (eb_pI (eb_pI (eb_pI z7.2 0 37 z9.toInt32) 0 38 ((z9.toInt32 >>> (7 &&& 31)) &&& 31)) 0 41 ((z9.toInt32 >>> (12 &&& 31)) &&& 7)) from (rJ_f3 (show rJ (eb_pI (eb_pI z7.2 0 37 z9.toInt32) 0 38 ((z9.toInt32 >>> (7 &&& 31)) &&& 31)) from (rJ_rd jz7 (pk_andIn _ 5 (by decide) (by decide)))) (pk_andIn _ 3 (by decide) (by decide)))) (pk_andIn _ 5 (by decide) (by decide)))) (pk_andIn _ 5 (by decide) (by decide))))
                    refine eb_callV (n := 0) (as := []) (rest := []) X hw hl.1 0 hc (by decide) ⟨rfl, rfl, rfl⟩ (eb_goodV wi_33_20 wi_33_21 wi_33_22 wi_1_5 wi_33_23) rfl (by decide +kernel) ⟨by decide, by decide⟩ rfl rfl (Nat.le_of_ble_eq_true rfl) dX10_instruction_359 ⟨by decide, by decide⟩ (st' := [.int z23.1]) rfl (fun H locs hw => ?_)
                    subst hm
                    exact eb_iret X hw rfl rfl rfl dX10_instruction_362
                  · have hm := (if_neg h22).symm.trans hm
                    by_cases h24 : (z9.toInt32 &&& 127) = 51
                    · have hm := (if_pos h24).symm.trans hm
                      refine lv_lookup (off := 230) (tgt := 373) hx hb dX10_instruction_143 (by decide) (by rw [h24]; decide) (by decide) ?_
                      refine lv_aload_n hx hb dX10_instruction_373 rfl (lv_at hl 1 rfl) ?_
                      obtain ⟨z25, qz25⟩ : ∃ t : Int32 × eb_St, t = m_X10_registers (eb_pI (eb_pI (eb_pI (eb_pI (eb_pI (eb_pI z7.2 0 37 z9.toInt32) 0 38 ((z9.toInt32 >>> (7 &&& 31)) &&& 31)) 0 41 ((z9.toInt32 >>> (12 &&& 31)) &&& 7)) 0 39 ((z9.toInt32 >>> (15 &&& 31)) &&& 31)) 0 40 ((z9.toInt32 >>> (20 &&& 31)) &&& 31)) 0 42 (eb_iushr z9.toInt32 25)) := ⟨_, rfl⟩
                      have hm : (z25.1, z25.2) = mm := by rw [qz25]; exact hm
                      have jz25 : rJ z25.2 := J_X10_registers qz25.symm (show rJ (eb_pI (eb_pI (eb_pI (eb_pI (eb_pI z7.2 0 37 z9.toInt32) 0 38 ((z9.toInt32 >>> (7 &&& 31)) &&& 31)) 0 41 ((z9.toInt32 >>> (12 &&& 31)) &&& 7)) 0 39 ((z9.toInt32 >>> (15 &&& 31)) &&& 31)) 0 40 ((z9.toInt32 >>> (20 &&& 31)) &&& 31)) from (rJ_s2 (show rJ (eb_pI (eb_pI (eb_pI (eb_pI z7.2 0 37 z9.toInt32) 0 38 ((z9.toInt32 >>> (7 &&& 31)) &&& 31)) 0 41 ((z9.toInt32 >>> (12 &&& 31)) &&& 7)) 0 39 ((z9.toInt32 >>> (15 &&& 31)) &&& 31)) from (rJ_s1 (show rJ (eb_pI (eb_pI (eb_pI z7.2 0 37 z9.toInt32) 0 38 ((z9.toInt32 >>> (7 &&& 31)) &&& 31)) 0 41 ((z9.toInt32 >>> (12 &&& 31)) &&& 7)) from (rJ_f3 (show rJ (eb_pI (eb_pI z7.2 0 37 z9.toInt32) 0 38 ((z9.toInt32 >>> (7 &&& 31)) &&& 31)) from (rJ_rd jz7 (pk_andIn _ 5 (by decide) (by decide)))) (pk_andIn _ 3 (by decide) (by decide)))) (pk_andIn _ 5 (by decide) (by decide)))) (pk_andIn _ 5 (by decide) (by decide))))
                      have hc : eb_M l yX10_registers (Cond.code yX10_registers cX10_registers 5 (some .int) :: wsL_law) 3 72 D 18 cy rL ad (eb_pI (eb_pI (eb_pI (eb_pI (eb_pI (eb_pI z7.2 0 37 z9.toInt32) 0 38 ((z9.toInt32 >>> (7 &&& 31)) &&& 31)) 0 41 ((z9.toInt32 >>> (12 &&& 31)) &&& 7)) 0 39 ((z9.toInt32 >>> (15 &&& 31)) &&& 31)) 0 40 ((z9.toInt32 >>> (20 &&& 31)) &&& 31)) 0 42 (eb_iushr z9.toInt32 25)) [.ref (ad 0)] (some (.int z25.1)) z25.2 := by rw [qz25]; exact c_X10_registers l D cy ad (eb_pI (eb_pI (eb_pI (eb_pI (eb_pI (eb_pI z7.2 0 37 z9.toInt32) 0 38 ((z9.toInt32 >>> (7 &&& 31)) &&& 31)) 0 41 ((z9.toInt32 >>> (12 &&& 31)) &&& 7)) 0 39 ((z9.toInt32 >>> (15 &&& 31)) &&& 31)) 0 40 ((z9.toInt32 >>> (20 &&& 31)) &&& 31)) 0 42 (eb_iushr z9.toInt32 25)) (show rJ (eb_pI (eb_pI (eb_pI (eb_pI (eb_pI z7.2 0 37 z9.toInt32) 0 38 ((z9.toInt32 >>> (7 &&& 31)) &&& 31)) 0 41 ((z9.toInt32 >>> (12 &&& 31)) &&& 7)) 0 39 ((z9.toInt32 >>> (15 &&& 31)) &&& 31)) 0 40 ((z9.toInt32 >>> (20 &&& 31)) &&& 31)) from (rJ_s2 (show rJ (eb_pI (eb_pI (eb_pI (eb_pI z7.2 0 37 z9.toInt32) 0 38 ((z9.toInt32 >>> (7 &&& 31)) &&& 31)) 0 41 ((z9.toInt32 >>> (12 &&& 31)) &&& 7)) 0 39 ((z9.toInt32 >>> (15 &&& 31)) &&& 31)) from (rJ_s1 (show rJ (eb_pI (eb_pI (eb_pI z7.2 0 37 z9.toInt32) 0 38 ((z9.toInt32 >>> (7 &&& 31)) &&& 31)) 0 41 ((z9.toInt32 >>> (12 &&& 31)) &&& 7)) from (rJ_f3 (show rJ (eb_pI (eb_pI z7.2 0 37 z9.toInt32) 0 38 ((z9.toInt32 >>> (7 &&& 31)) &&& 31)) from (rJ_rd jz7 (pk_andIn _ 5 (by decide) (by decide)))) (pk_andIn _ 3 (by decide) (by decide)))) (pk_andIn _ 5 (by decide) (by decide)))) (pk_andIn _ 5 (by decide) (by decide))))
                      refine eb_callV (n := 0) (as := []) (rest := []) X hw hl.1 0 hc (by decide) ⟨rfl, rfl, rfl⟩ (eb_goodV wi_34_8 wi_34_9 wi_34_10 wi_1_5 wi_34_11) rfl (by decide +kernel) ⟨by decide, by decide⟩ rfl rfl (Nat.le_of_ble_eq_true rfl) dX10_instruction_374 ⟨by decide, by decide⟩ (st' := [.int z25.1]) rfl (fun H locs hw => ?_)
                      subst hm
                      exact eb_iret X hw rfl rfl rfl dX10_instruction_377
                    · have hm := (if_neg h24).symm.trans hm
                      by_cases h26 : (z9.toInt32 &&& 127) = 55
                      · have hm := (if_pos h26).symm.trans hm
                        refine lv_lookup (off := 113) (tgt := 256) hx hb dX10_instruction_143 (by decide) (by rw [h26]; decide) (by decide) ?_
                        refine lv_aload_n hx hb dX10_instruction_256 rfl (lv_at hl 1 rfl) ?_
                        refine lv_aload_n hx hb dX10_instruction_257 rfl (lv_at hl 1 rfl) ?_
                        refine eb_get (T := TX10) X hw 0 37 (by decide) ⟨rfl, rfl, rfl⟩ (by decide) (fun _ h => List.mem_cons_of_mem _ (inlX10 _ h)) (List.mem_cons_of_mem _ wi_30_8) (v := .int z9.toInt32) rfl dX10_instruction_258 ?_
                        refine lv_sipush (v := (-4096)) hx hb dX10_instruction_261 (by decide) ?_
                        refine lv_iand hx hb dX10_instruction_264 ?_
                        refine lv_i2l (v := (z9.toInt32 &&& (-4096)).toInt64) hx hb dX10_instruction_265 rfl ?_
                        obtain ⟨z27, qz27⟩ : ∃ t : Int32 × eb_St, t = m_X10_sets (eb_pI (eb_pI (eb_pI (eb_pI (eb_pI (eb_pI z7.2 0 37 z9.toInt32) 0 38 ((z9.toInt32 >>> (7 &&& 31)) &&& 31)) 0 41 ((z9.toInt32 >>> (12 &&& 31)) &&& 7)) 0 39 ((z9.toInt32 >>> (15 &&& 31)) &&& 31)) 0 40 ((z9.toInt32 >>> (20 &&& 31)) &&& 31)) 0 42 (eb_iushr z9.toInt32 25)) ((z9.toInt32 &&& (-4096)).toInt64) := ⟨_, rfl⟩
                        have hm : (z27.1, z27.2) = mm := by rw [qz27]; exact hm
                        have jz27 : rJ z27.2 := J_X10_sets qz27.symm (show rJ (eb_pI (eb_pI (eb_pI (eb_pI (eb_pI z7.2 0 37 z9.toInt32) 0 38 ((z9.toInt32 >>> (7 &&& 31)) &&& 31)) 0 41 ((z9.toInt32 >>> (12 &&& 31)) &&& 7)) 0 39 ((z9.toInt32 >>> (15 &&& 31)) &&& 31)) 0 40 ((z9.toInt32 >>> (20 &&& 31)) &&& 31)) from (rJ_s2 (show rJ (eb_pI (eb_pI (eb_pI (eb_pI z7.2 0 37 z9.toInt32) 0 38 ((z9.toInt32 >>> (7 &&& 31)) &&& 31)) 0 41 ((z9.toInt32 >>> (12 &&& 31)) &&& 7)) 0 39 ((z9.toInt32 >>> (15 &&& 31)) &&& 31)) from (rJ_s1 (show rJ (eb_pI (eb_pI (eb_pI z7.2 0 37 z9.toInt32) 0 38 ((z9.toInt32 >>> (7 &&& 31)) &&& 31)) 0 41 ((z9.toInt32 >>> (12 &&& 31)) &&& 7)) from (rJ_f3 (show rJ (eb_pI (eb_pI z7.2 0 37 z9.toInt32) 0 38 ((z9.toInt32 >>> (7 &&& 31)) &&& 31)) from (rJ_rd jz7 (pk_andIn _ 5 (by decide) (by decide)))) (pk_andIn _ 3 (by decide) (by decide)))) (pk_andIn _ 5 (by decide) (by decide)))) (pk_andIn _ 5 (by decide) (by decide))))
                        have hc : eb_M l yX10_sets (Cond.code yX10_sets cX10_sets 3 (some .int) :: wsL_law) 2 43 D 18 cy rL ad (eb_pI (eb_pI (eb_pI (eb_pI (eb_pI (eb_pI z7.2 0 37 z9.toInt32) 0 38 ((z9.toInt32 >>> (7 &&& 31)) &&& 31)) 0 41 ((z9.toInt32 >>> (12 &&& 31)) &&& 7)) 0 39 ((z9.toInt32 >>> (15 &&& 31)) &&& 31)) 0 40 ((z9.toInt32 >>> (20 &&& 31)) &&& 31)) 0 42 (eb_iushr z9.toInt32 25)) [.ref (ad 0), .long ((z9.toInt32 &&& (-4096)).toInt64)] (some (.int z27.1)) z27.2 := by rw [qz27]; exact c_X10_sets l D cy ad (eb_pI (eb_pI (eb_pI (eb_pI (eb_pI (eb_pI z7.2 0 37 z9.toInt32) 0 38 ((z9.toInt32 >>> (7 &&& 31)) &&& 31)) 0 41 ((z9.toInt32 >>> (12 &&& 31)) &&& 7)) 0 39 ((z9.toInt32 >>> (15 &&& 31)) &&& 31)) 0 40 ((z9.toInt32 >>> (20 &&& 31)) &&& 31)) 0 42 (eb_iushr z9.toInt32 25)) ((z9.toInt32 &&& (-4096)).toInt64) (show rJ (eb_pI (eb_pI (eb_pI (eb_pI (eb_pI z7.2 0 37 z9.toInt32) 0 38 ((z9.toInt32 >>> (7 &&& 31)) &&& 31)) 0 41 ((z9.toInt32 >>> (12 &&& 31)) &&& 7)) 0 39 ((z9.toInt32 >>> (15 &&& 31)) &&& 31)) 0 40 ((z9.toInt32 >>> (20 &&& 31)) &&& 31)) from (rJ_s2 (show rJ (eb_pI (eb_pI (eb_pI (eb_pI z7.2 0 37 z9.toInt32) 0 38 ((z9.toInt32 >>> (7 &&& 31)) &&& 31)) 0 41 ((z9.toInt32 >>> (12 &&& 31)) &&& 7)) 0 39 ((z9.toInt32 >>> (15 &&& 31)) &&& 31)) from (rJ_s1 (show rJ (eb_pI (eb_pI (eb_pI z7.2 0 37 z9.toInt32) 0 38 ((z9.toInt32 >>> (7 &&& 31)) &&& 31)) 0 41 ((z9.toInt32 >>> (12 &&& 31)) &&& 7)) from (rJ_f3 (show rJ (eb_pI (eb_pI z7.2 0 37 z9.toInt32) 0 38 ((z9.toInt32 >>> (7 &&& 31)) &&& 31)) from (rJ_rd jz7 (pk_andIn _ 5 (by decide) (by decide)))) (pk_andIn _ 3 (by decide) (by decide)))) (pk_andIn _ 5 (by decide) (by decide)))) (pk_andIn _ 5 (by decide) (by decide))))
                        refine eb_callV (n := 1) (as := [.long ((z9.toInt32 &&& (-4096)).toInt64)]) (rest := []) X hw hl.1 0 hc (by decide) ⟨rfl, rfl, rfl⟩ (eb_goodV wi_32_2 wi_32_3 wi_32_4 wi_1_5 wi_32_5) rfl (by decide +kernel) ⟨by decide, by decide⟩ rfl rfl (Nat.le_of_ble_eq_true rfl) dX10_instruction_266 ⟨by decide, by decide⟩ (st' := [.int z27.1]) rfl (fun H locs hw => ?_)
                        subst hm
                        exact eb_iret X hw rfl rfl rfl dX10_instruction_269
                      · have hm := (if_neg h26).symm.trans hm
                        by_cases h28 : (z9.toInt32 &&& 127) = 59
                        · have hm := (if_pos h28).symm.trans hm
                          refine lv_lookup (off := 235) (tgt := 378) hx hb dX10_instruction_143 (by decide) (by rw [h28]; decide) (by decide) ?_
                          refine lv_aload_n hx hb dX10_instruction_378 rfl (lv_at hl 1 rfl) ?_
                          obtain ⟨z29, qz29⟩ : ∃ t : Int32 × eb_St, t = m_X10_registersW (eb_pI (eb_pI (eb_pI (eb_pI (eb_pI (eb_pI z7.2 0 37 z9.toInt32) 0 38 ((z9.toInt32 >>> (7 &&& 31)) &&& 31)) 0 41 ((z9.toInt32 >>> (12 &&& 31)) &&& 7)) 0 39 ((z9.toInt32 >>> (15 &&& 31)) &&& 31)) 0 40 ((z9.toInt32 >>> (20 &&& 31)) &&& 31)) 0 42 (eb_iushr z9.toInt32 25)) := ⟨_, rfl⟩
                          have hm : (z29.1, z29.2) = mm := by rw [qz29]; exact hm
                          have jz29 : rJ z29.2 := J_X10_registersW qz29.symm (show rJ (eb_pI (eb_pI (eb_pI (eb_pI (eb_pI z7.2 0 37 z9.toInt32) 0 38 ((z9.toInt32 >>> (7 &&& 31)) &&& 31)) 0 41 ((z9.toInt32 >>> (12 &&& 31)) &&& 7)) 0 39 ((z9.toInt32 >>> (15 &&& 31)) &&& 31)) 0 40 ((z9.toInt32 >>> (20 &&& 31)) &&& 31)) from (rJ_s2 (show rJ (eb_pI (eb_pI (eb_pI (eb_pI z7.2 0 37 z9.toInt32) 0 38 ((z9.toInt32 >>> (7 &&& 31)) &&& 31)) 0 41 ((z9.toInt32 >>> (12 &&& 31)) &&& 7)) 0 39 ((z9.toInt32 >>> (15 &&& 31)) &&& 31)) from (rJ_s1 (show rJ (eb_pI (eb_pI (eb_pI z7.2 0 37 z9.toInt32) 0 38 ((z9.toInt32 >>> (7 &&& 31)) &&& 31)) 0 41 ((z9.toInt32 >>> (12 &&& 31)) &&& 7)) from (rJ_f3 (show rJ (eb_pI (eb_pI z7.2 0 37 z9.toInt32) 0 38 ((z9.toInt32 >>> (7 &&& 31)) &&& 31)) from (rJ_rd jz7 (pk_andIn _ 5 (by decide) (by decide)))) (pk_andIn _ 3 (by decide) (by decide)))) (pk_andIn _ 5 (by decide) (by decide)))) (pk_andIn _ 5 (by decide) (by decide))))
                          have hc : eb_M l yX10_registersW (Cond.code yX10_registersW cX10_registersW 7 (some .int) :: wsL_law) 3 65 D 18 cy rL ad (eb_pI (eb_pI (eb_pI (eb_pI (eb_pI (eb_pI z7.2 0 37 z9.toInt32) 0 38 ((z9.toInt32 >>> (7 &&& 31)) &&& 31)) 0 41 ((z9.toInt32 >>> (12 &&& 31)) &&& 7)) 0 39 ((z9.toInt32 >>> (15 &&& 31)) &&& 31)) 0 40 ((z9.toInt32 >>> (20 &&& 31)) &&& 31)) 0 42 (eb_iushr z9.toInt32 25)) [.ref (ad 0)] (some (.int z29.1)) z29.2 := by rw [qz29]; exact c_X10_registersW l D cy ad (eb_pI (eb_pI (eb_pI (eb_pI (eb_pI (eb_pI z7.2 0 37 z9.toInt32) 0 38 ((z9.toInt32 >>> (7 &&& 31)) &&& 31)) 0 41 ((z9.toInt32 >>> (12 &&& 31)) &&& 7)) 0 39 ((z9.toInt32 >>> (15 &&& 31)) &&& 31)) 0 40 ((z9.toInt32 >>> (20 &&& 31)) &&& 31)) 0 42 (eb_iushr z9.toInt32 25)) (show rJ (eb_pI (eb_pI (eb_pI (eb_pI (eb_pI z7.2 0 37 z9.toInt32) 0 38 ((z9.toInt32 >>> (7 &&& 31)) &&& 31)) 0 41 ((z9.toInt32 >>> (12 &&& 31)) &&& 7)) 0 39 ((z9.toInt32 >>> (15 &&& 31)) &&& 31)) 0 40 ((z9.toInt32 >>> (20 &&& 31)) &&& 31)) from (rJ_s2 (show rJ (eb_pI (eb_pI (eb_pI (eb_pI z7.2 0 37 z9.toInt32) 0 38 ((z9.toInt32 >>> (7 &&& 31)) &&& 31)) 0 41 ((z9.toInt32 >>> (12 &&& 31)) &&& 7)) 0 39 ((z9.toInt32 >>> (15 &&& 31)) &&& 31)) from (rJ_s1 (show rJ (eb_pI (eb_pI (eb_pI z7.2 0 37 z9.toInt32) 0 38 ((z9.toInt32 >>> (7 &&& 31)) &&& 31)) 0 41 ((z9.toInt32 >>> (12 &&& 31)) &&& 7)) from (rJ_f3 (show rJ (eb_pI (eb_pI z7.2 0 37 z9.toInt32) 0 38 ((z9.toInt32 >>> (7 &&& 31)) &&& 31)) from (rJ_rd jz7 (pk_andIn _ 5 (by decide) (by decide)))) (pk_andIn _ 3 (by decide) (by decide)))) (pk_andIn _ 5 (by decide) (by decide)))) (pk_andIn _ 5 (by decide) (by decide))))
                          refine eb_callV (n := 0) (as := []) (rest := []) X hw hl.1 0 hc (by decide) ⟨rfl, rfl, rfl⟩ (eb_goodV wi_35_0 wi_35_1 wi_35_2 wi_1_5 wi_35_3) rfl (by decide +kernel) ⟨by decide, by decide⟩ rfl rfl (Nat.le_of_ble_eq_true rfl) dX10_instruction_379 ⟨by decide, by decide⟩ (st' := [.int z29.1]) rfl (fun H locs hw => ?_)
                          subst hm
                          exact eb_iret X hw rfl rfl rfl dX10_instruction_382
                        · have hm := (if_neg h28).symm.trans hm
                          by_cases h30 : (z9.toInt32 &&& 127) = 99
                          · have hm := (if_pos h30).symm.trans hm
                            refine lv_lookup (off := 204) (tgt := 347) hx hb dX10_instruction_143 (by decide) (by rw [h30]; decide) (by decide) ?_
                            refine lv_aload_n hx hb dX10_instruction_347 rfl (lv_at hl 1 rfl) ?_
                            refine lv_lload_n hx hb dX10_instruction_348 rfl (lv_at hl 0 rfl) ?_
                            obtain ⟨z31, qz31⟩ : ∃ t : Int32 × eb_St, t = m_X10_branches (eb_pI (eb_pI (eb_pI (eb_pI (eb_pI (eb_pI z7.2 0 37 z9.toInt32) 0 38 ((z9.toInt32 >>> (7 &&& 31)) &&& 31)) 0 41 ((z9.toInt32 >>> (12 &&& 31)) &&& 7)) 0 39 ((z9.toInt32 >>> (15 &&& 31)) &&& 31)) 0 40 ((z9.toInt32 >>> (20 &&& 31)) &&& 31)) 0 42 (eb_iushr z9.toInt32 25)) x2 := ⟨_, rfl⟩
                            have hm : (z31.1, z31.2) = mm := by rw [qz31]; exact hm
                            have jz31 : rJ z31.2 := J_X10_branches qz31.symm (show rJ (eb_pI (eb_pI (eb_pI (eb_pI (eb_pI z7.2 0 37 z9.toInt32) 0 38 ((z9.toInt32 >>> (7 &&& 31)) &&& 31)) 0 41 ((z9.toInt32 >>> (12 &&& 31)) &&& 7)) 0 39 ((z9.toInt32 >>> (15 &&& 31)) &&& 31)) 0 40 ((z9.toInt32 >>> (20 &&& 31)) &&& 31)) from (rJ_s2 (show rJ (eb_pI (eb_pI (eb_pI (eb_pI z7.2 0 37 z9.toInt32) 0 38 ((z9.toInt32 >>> (7 &&& 31)) &&& 31)) 0 41 ((z9.toInt32 >>> (12 &&& 31)) &&& 7)) 0 39 ((z9.toInt32 >>> (15 &&& 31)) &&& 31)) from (rJ_s1 (show rJ (eb_pI (eb_pI (eb_pI z7.2 0 37 z9.toInt32) 0 38 ((z9.toInt32 >>> (7 &&& 31)) &&& 31)) 0 41 ((z9.toInt32 >>> (12 &&& 31)) &&& 7)) from (rJ_f3 (show rJ (eb_pI (eb_pI z7.2 0 37 z9.toInt32) 0 38 ((z9.toInt32 >>> (7 &&& 31)) &&& 31)) from (rJ_rd jz7 (pk_andIn _ 5 (by decide) (by decide)))) (pk_andIn _ 3 (by decide) (by decide)))) (pk_andIn _ 5 (by decide) (by decide)))) (pk_andIn _ 5 (by decide) (by decide))))
                            have hc : eb_M l yX10_branches (Cond.code yX10_branches cX10_branches 10 (some .int) :: wsL_law) 2 43 D 18 cy rL ad (eb_pI (eb_pI (eb_pI (eb_pI (eb_pI (eb_pI z7.2 0 37 z9.toInt32) 0 38 ((z9.toInt32 >>> (7 &&& 31)) &&& 31)) 0 41 ((z9.toInt32 >>> (12 &&& 31)) &&& 7)) 0 39 ((z9.toInt32 >>> (15 &&& 31)) &&& 31)) 0 40 ((z9.toInt32 >>> (20 &&& 31)) &&& 31)) 0 42 (eb_iushr z9.toInt32 25)) [.ref (ad 0), .long x2] (some (.int z31.1)) z31.2 := by rw [qz31]; exact c_X10_branches l D cy ad (eb_pI (eb_pI (eb_pI (eb_pI (eb_pI (eb_pI z7.2 0 37 z9.toInt32) 0 38 ((z9.toInt32 >>> (7 &&& 31)) &&& 31)) 0 41 ((z9.toInt32 >>> (12 &&& 31)) &&& 7)) 0 39 ((z9.toInt32 >>> (15 &&& 31)) &&& 31)) 0 40 ((z9.toInt32 >>> (20 &&& 31)) &&& 31)) 0 42 (eb_iushr z9.toInt32 25)) x2 (show rJ (eb_pI (eb_pI (eb_pI (eb_pI (eb_pI z7.2 0 37 z9.toInt32) 0 38 ((z9.toInt32 >>> (7 &&& 31)) &&& 31)) 0 41 ((z9.toInt32 >>> (12 &&& 31)) &&& 7)) 0 39 ((z9.toInt32 >>> (15 &&& 31)) &&& 31)) 0 40 ((z9.toInt32 >>> (20 &&& 31)) &&& 31)) from (rJ_s2 (show rJ (eb_pI (eb_pI (eb_pI (eb_pI z7.2 0 37 z9.toInt32) 0 38 ((z9.toInt32 >>> (7 &&& 31)) &&& 31)) 0 41 ((z9.toInt32 >>> (12 &&& 31)) &&& 7)) 0 39 ((z9.toInt32 >>> (15 &&& 31)) &&& 31)) from (rJ_s1 (show rJ (eb_pI (eb_pI (eb_pI z7.2 0 37 z9.toInt32) 0 38 ((z9.toInt32 >>> (7 &&& 31)) &&& 31)) 0 41 ((z9.toInt32 >>> (12 &&& 31)) &&& 7)) from (rJ_f3 (show rJ (eb_pI (eb_pI z7.2 0 37 z9.toInt32) 0 38 ((z9.toInt32 >>> (7 &&& 31)) &&& 31)) from (rJ_rd jz7 (pk_andIn _ 5 (by decide) (by decide)))) (pk_andIn _ 3 (by decide) (by decide)))) (pk_andIn _ 5 (by decide) (by decide)))) (pk_andIn _ 5 (by decide) (by decide))))
                            refine eb_callV (n := 1) (as := [.long x2]) (rest := []) X hw hl.1 0 hc (by decide) ⟨rfl, rfl, rfl⟩ (eb_goodV wi_33_8 wi_33_9 wi_33_10 wi_1_5 wi_33_11) rfl (by decide +kernel) ⟨by decide, by decide⟩ rfl rfl (Nat.le_of_ble_eq_true rfl) dX10_instruction_349 ⟨by decide, by decide⟩ (st' := [.int z31.1]) rfl (fun H locs hw => ?_)
                            subst hm
                            exact eb_iret X hw rfl rfl rfl dX10_instruction_352
                          · have hm := (if_neg h30).symm.trans hm
                            by_cases h32 : (z9.toInt32 &&& 127) = 103
                            · have hm := (if_pos h32).symm.trans hm
                              refine lv_lookup (off := 159) (tgt := 302) hx hb dX10_instruction_143 (by decide) (by rw [h32]; decide) (by decide) ?_
                              refine lv_aload_n hx hb dX10_instruction_302 rfl (lv_at hl 1 rfl) ?_
                              refine eb_get (T := TX10) X hw 0 41 (by decide) ⟨rfl, rfl, rfl⟩ (by decide) (fun _ h => List.mem_cons_of_mem _ (inlX10 _ h)) (List.mem_cons_of_mem _ wi_30_10) (v := .int ((z9.toInt32 >>> (12 &&& 31)) &&& 7)) rfl dX10_instruction_303 ?_
                              refine lv_if_eq (tgt := 316) hx hb dX10_instruction_306 (by decide) (fun h33 => ?_) (fun h33 => ?_)
                              · have hm := (if_pos h33).symm.trans hm
                                refine lv_aload_n hx hb dX10_instruction_316 rfl (lv_at hl 1 rfl) ?_
                                refine lv_aload_n hx hb dX10_instruction_317 rfl (lv_at hl 1 rfl) ?_
                                refine lv_aload_n hx hb dX10_instruction_318 rfl (lv_at hl 1 rfl) ?_
                                refine eb_get (T := TX10) X hw 0 39 (by decide) ⟨rfl, rfl, rfl⟩ (by decide) (fun _ h => List.mem_cons_of_mem _ (inlX10 _ h)) (List.mem_cons_of_mem _ wi_30_11) (v := .int ((z9.toInt32 >>> (15 &&& 31)) &&& 31)) rfl dX10_instruction_319 ?_
                                obtain ⟨z34, qz34⟩ : ∃ t : Int64, t = m_X10_x (eb_pI (eb_pI (eb_pI (eb_pI (eb_pI (eb_pI z7.2 0 37 z9.toInt32) 0 38 ((z9.toInt32 >>> (7 &&& 31)) &&& 31)) 0 41 ((z9.toInt32 >>> (12 &&& 31)) &&& 7)) 0 39 ((z9.toInt32 >>> (15 &&& 31)) &&& 31)) 0 40 ((z9.toInt32 >>> (20 &&& 31)) &&& 31)) 0 42 (eb_iushr z9.toInt32 25)) ((z9.toInt32 >>> (15 &&& 31)) &&& 31) := ⟨_, rfl⟩
                                have hm : (fun (z35 : Int32 × eb_St) => (z35.1, z35.2)) (m_X10_jumps (eb_pI (eb_pI (eb_pI (eb_pI (eb_pI (eb_pI z7.2 0 37 z9.toInt32) 0 38 ((z9.toInt32 >>> (7 &&& 31)) &&& 31)) 0 41 ((z9.toInt32 >>> (12 &&& 31)) &&& 7)) 0 39 ((z9.toInt32 >>> (15 &&& 31)) &&& 31)) 0 40 ((z9.toInt32 >>> (20 &&& 31)) &&& 31)) 0 42 (eb_iushr z9.toInt32 25)) ((z34 + ((z9.toInt32 >>> (20 &&& 31)).toInt64)) &&& (-2)) (x2 + 4)) = mm := by rw [qz34]; exact hm
                                have hc : eb_M l yX10_x (Cond.code yX10_x cX10_x 2 (some .long) :: wsL_law) 1 20 D 18 cy rL ad (eb_pI (eb_pI (eb_pI (eb_pI (eb_pI (eb_pI z7.2 0 37 z9.toInt32) 0 38 ((z9.toInt32 >>> (7 &&& 31)) &&& 31)) 0 41 ((z9.toInt32 >>> (12 &&& 31)) &&& 7)) 0 39 ((z9.toInt32 >>> (15 &&& 31)) &&& 31)) 0 40 ((z9.toInt32 >>> (20 &&& 31)) &&& 31)) 0 42 (eb_iushr z9.toInt32 25)) [.ref (ad 0), .int ((z9.toInt32 >>> (15 &&& 31)) &&& 31)] (some (.long z34)) (eb_pI (eb_pI (eb_pI (eb_pI (eb_pI (eb_pI z7.2 0 37 z9.toInt32) 0 38 ((z9.toInt32 >>> (7 &&& 31)) &&& 31)) 0 41 ((z9.toInt32 >>> (12 &&& 31)) &&& 7)) 0 39 ((z9.toInt32 >>> (15 &&& 31)) &&& 31)) 0 40 ((z9.toInt32 >>> (20 &&& 31)) &&& 31)) 0 42 (eb_iushr z9.toInt32 25)) := by rw [qz34]; exact c_X10_x l D cy ad (eb_pI (eb_pI (eb_pI (eb_pI (eb_pI (eb_pI z7.2 0 37 z9.toInt32) 0 38 ((z9.toInt32 >>> (7 &&& 31)) &&& 31)) 0 41 ((z9.toInt32 >>> (12 &&& 31)) &&& 7)) 0 39 ((z9.toInt32 >>> (15 &&& 31)) &&& 31)) 0 40 ((z9.toInt32 >>> (20 &&& 31)) &&& 31)) 0 42 (eb_iushr z9.toInt32 25)) ((z9.toInt32 >>> (15 &&& 31)) &&& 31) (show rJ (eb_pI (eb_pI (eb_pI (eb_pI (eb_pI z7.2 0 37 z9.toInt32) 0 38 ((z9.toInt32 >>> (7 &&& 31)) &&& 31)) 0 41 ((z9.toInt32 >>> (12 &&& 31)) &&& 7)) 0 39 ((z9.toInt32 >>> (15 &&& 31)) &&& 31)) 0 40 ((z9.toInt32 >>> (20 &&& 31)) &&& 31)) from (rJ_s2 (show rJ (eb_pI (eb_pI (eb_pI (eb_pI z7.2 0 37 z9.toInt32) 0 38 ((z9.toInt32 >>> (7 &&& 31)) &&& 31)) 0 41 ((z9.toInt32 >>> (12 &&& 31)) &&& 7)) 0 39 ((z9.toInt32 >>> (15 &&& 31)) &&& 31)) from (rJ_s1 (show rJ (eb_pI (eb_pI (eb_pI z7.2 0 37 z9.toInt32) 0 38 ((z9.toInt32 >>> (7 &&& 31)) &&& 31)) 0 41 ((z9.toInt32 >>> (12 &&& 31)) &&& 7)) from (rJ_f3 (show rJ (eb_pI (eb_pI z7.2 0 37 z9.toInt32) 0 38 ((z9.toInt32 >>> (7 &&& 31)) &&& 31)) from (rJ_rd jz7 (pk_andIn _ 5 (by decide) (by decide)))) (pk_andIn _ 3 (by decide) (by decide)))) (pk_andIn _ 5 (by decide) (by decide)))) (pk_andIn _ 5 (by decide) (by decide)))) (pk_andIn _ 5 (by decide) (by decide))
                                refine eb_callV (n := 1) (as := [.int ((z9.toInt32 >>> (15 &&& 31)) &&& 31)]) (rest := [.ref (ad 0)]) X hw hl.1 0 hc (by decide) ⟨rfl, rfl, rfl⟩ (eb_goodV wi_33_4 wi_33_5 wi_33_6 wi_1_5 wi_33_7) rfl (by decide +kernel) ⟨by decide, by decide⟩ rfl rfl (Nat.le_of_ble_eq_true rfl) dX10_instruction_322 ⟨by decide, by decide⟩ (st' := [.long z34, .ref (ad 0)]) rfl (fun H locs hw => ?_)
                                refine lv_aload_n hx hb dX10_instruction_325 rfl (lv_at hl 1 rfl) ?_
                                refine eb_get (T := TX10) X hw 0 37 (by decide) ⟨rfl, rfl, rfl⟩ (by decide) (fun _ h => List.mem_cons_of_mem _ (inlX10 _ h)) (List.mem_cons_of_mem _ wi_30_8) (v := .int z9.toInt32) rfl dX10_instruction_326 ?_
                                refine lv_bipush (v := 20) hx hb dX10_instruction_329 (by decide) ?_
                                refine lv_ishr hx hb dX10_instruction_331 ?_
                                refine lv_i2l (v := (z9.toInt32 >>> (20 &&& 31)).toInt64) hx hb dX10_instruction_332 rfl ?_
                                refine lv_ladd hx hb dX10_instruction_333 ?_
                                refine lv_ldc2 hx hb hown (hts _ (List.mem_cons_of_mem _ wi_30_15)) dX10_instruction_334 ?_
                                refine lv_land hx hb dX10_instruction_337 ?_
                                refine lv_lload_n hx hb dX10_instruction_338 rfl (lv_at hl 0 rfl) ?_
                                refine lv_ldc2 hx hb hown (hts _ (List.mem_cons_of_mem _ wi_30_14)) dX10_instruction_339 ?_
                                refine lv_ladd hx hb dX10_instruction_342 ?_
                                obtain ⟨z35, qz35⟩ : ∃ t : Int32 × eb_St, t = m_X10_jumps (eb_pI (eb_pI (eb_pI (eb_pI (eb_pI (eb_pI z7.2 0 37 z9.toInt32) 0 38 ((z9.toInt32 >>> (7 &&& 31)) &&& 31)) 0 41 ((z9.toInt32 >>> (12 &&& 31)) &&& 7)) 0 39 ((z9.toInt32 >>> (15 &&& 31)) &&& 31)) 0 40 ((z9.toInt32 >>> (20 &&& 31)) &&& 31)) 0 42 (eb_iushr z9.toInt32 25)) ((z34 + ((z9.toInt32 >>> (20 &&& 31)).toInt64)) &&& (-2)) (x2 + 4) := ⟨_, rfl⟩
                                have hm : (z35.1, z35.2) = mm := by rw [qz35]; exact hm
                                have jz35 : rJ z35.2 := J_X10_jumps qz35.symm (show rJ (eb_pI (eb_pI (eb_pI (eb_pI (eb_pI z7.2 0 37 z9.toInt32) 0 38 ((z9.toInt32 >>> (7 &&& 31)) &&& 31)) 0 41 ((z9.toInt32 >>> (12 &&& 31)) &&& 7)) 0 39 ((z9.toInt32 >>> (15 &&& 31)) &&& 31)) 0 40 ((z9.toInt32 >>> (20 &&& 31)) &&& 31)) from (rJ_s2 (show rJ (eb_pI (eb_pI (eb_pI (eb_pI z7.2 0 37 z9.toInt32) 0 38 ((z9.toInt32 >>> (7 &&& 31)) &&& 31)) 0 41 ((z9.toInt32 >>> (12 &&& 31)) &&& 7)) 0 39 ((z9.toInt32 >>> (15 &&& 31)) &&& 31)) from (rJ_s1 (show rJ (eb_pI (eb_pI (eb_pI z7.2 0 37 z9.toInt32) 0 38 ((z9.toInt32 >>> (7 &&& 31)) &&& 31)) 0 41 ((z9.toInt32 >>> (12 &&& 31)) &&& 7)) from (rJ_f3 (show rJ (eb_pI (eb_pI z7.2 0 37 z9.toInt32) 0 38 ((z9.toInt32 >>> (7 &&& 31)) &&& 31)) from (rJ_rd jz7 (pk_andIn _ 5 (by decide) (by decide)))) (pk_andIn _ 3 (by decide) (by decide)))) (pk_andIn _ 5 (by decide) (by decide)))) (pk_andIn _ 5 (by decide) (by decide))))
                                have hc : eb_M l yX10_jumps (Cond.code yX10_jumps cX10_jumps 5 (some .int) :: wsL_law) 2 43 D 18 cy rL ad (eb_pI (eb_pI (eb_pI (eb_pI (eb_pI (eb_pI z7.2 0 37 z9.toInt32) 0 38 ((z9.toInt32 >>> (7 &&& 31)) &&& 31)) 0 41 ((z9.toInt32 >>> (12 &&& 31)) &&& 7)) 0 39 ((z9.toInt32 >>> (15 &&& 31)) &&& 31)) 0 40 ((z9.toInt32 >>> (20 &&& 31)) &&& 31)) 0 42 (eb_iushr z9.toInt32 25)) [.ref (ad 0), .long ((z34 + ((z9.toInt32 >>> (20 &&& 31)).toInt64)) &&& (-2)), .long (x2 + 4)] (some (.int z35.1)) z35.2 := by rw [qz35]; exact c_X10_jumps l D cy ad (eb_pI (eb_pI (eb_pI (eb_pI (eb_pI (eb_pI z7.2 0 37 z9.toInt32) 0 38 ((z9.toInt32 >>> (7 &&& 31)) &&& 31)) 0 41 ((z9.toInt32 >>> (12 &&& 31)) &&& 7)) 0 39 ((z9.toInt32 >>> (15 &&& 31)) &&& 31)) 0 40 ((z9.toInt32 >>> (20 &&& 31)) &&& 31)) 0 42 (eb_iushr z9.toInt32 25)) ((z34 + ((z9.toInt32 >>> (20 &&& 31)).toInt64)) &&& (-2)) (x2 + 4) (show rJ (eb_pI (eb_pI (eb_pI (eb_pI (eb_pI z7.2 0 37 z9.toInt32) 0 38 ((z9.toInt32 >>> (7 &&& 31)) &&& 31)) 0 41 ((z9.toInt32 >>> (12 &&& 31)) &&& 7)) 0 39 ((z9.toInt32 >>> (15 &&& 31)) &&& 31)) 0 40 ((z9.toInt32 >>> (20 &&& 31)) &&& 31)) from (rJ_s2 (show rJ (eb_pI (eb_pI (eb_pI (eb_pI z7.2 0 37 z9.toInt32) 0 38 ((z9.toInt32 >>> (7 &&& 31)) &&& 31)) 0 41 ((z9.toInt32 >>> (12 &&& 31)) &&& 7)) 0 39 ((z9.toInt32 >>> (15 &&& 31)) &&& 31)) from (rJ_s1 (show rJ (eb_pI (eb_pI (eb_pI z7.2 0 37 z9.toInt32) 0 38 ((z9.toInt32 >>> (7 &&& 31)) &&& 31)) 0 41 ((z9.toInt32 >>> (12 &&& 31)) &&& 7)) from (rJ_f3 (show rJ (eb_pI (eb_pI z7.2 0 37 z9.toInt32) 0 38 ((z9.toInt32 >>> (7 &&& 31)) &&& 31)) from (rJ_rd jz7 (pk_andIn _ 5 (by decide) (by decide)))) (pk_andIn _ 3 (by decide) (by decide)))) (pk_andIn _ 5 (by decide) (by decide)))) (pk_andIn _ 5 (by decide) (by decide))))
                                refine eb_callV (n := 2) (as := [.long ((z34 + ((z9.toInt32 >>> (20 &&& 31)).toInt64)) &&& (-2)), .long (x2 + 4)]) (rest := []) X hw hl.1 0 hc (by decide) ⟨rfl, rfl, rfl⟩ (eb_goodV wi_32_19 wi_32_20 wi_32_21 wi_1_5 wi_32_22) rfl (by decide +kernel) ⟨by decide, by decide⟩ rfl rfl (Nat.le_of_ble_eq_true rfl) dX10_instruction_343 ⟨by decide, by decide⟩ (st' := [.int z35.1]) rfl (fun H locs hw => ?_)
                                subst hm
                                exact eb_iret X hw rfl rfl rfl dX10_instruction_346
                              · have hm := (if_neg h33).symm.trans hm
                                refine lv_aload_n hx hb dX10_instruction_309 rfl (lv_at hl 1 rfl) ?_
                                obtain ⟨z36, qz36⟩ : ∃ t : Int32 × eb_St, t = m_X10_illegal (eb_pI (eb_pI (eb_pI (eb_pI (eb_pI (eb_pI z7.2 0 37 z9.toInt32) 0 38 ((z9.toInt32 >>> (7 &&& 31)) &&& 31)) 0 41 ((z9.toInt32 >>> (12 &&& 31)) &&& 7)) 0 39 ((z9.toInt32 >>> (15 &&& 31)) &&& 31)) 0 40 ((z9.toInt32 >>> (20 &&& 31)) &&& 31)) 0 42 (eb_iushr z9.toInt32 25)) := ⟨_, rfl⟩
                                have hm : (z36.1, z36.2) = mm := by rw [qz36]; exact hm
                                have jz36 : rJ z36.2 := J_X10_illegal qz36.symm (show rJ (eb_pI (eb_pI (eb_pI (eb_pI (eb_pI z7.2 0 37 z9.toInt32) 0 38 ((z9.toInt32 >>> (7 &&& 31)) &&& 31)) 0 41 ((z9.toInt32 >>> (12 &&& 31)) &&& 7)) 0 39 ((z9.toInt32 >>> (15 &&& 31)) &&& 31)) 0 40 ((z9.toInt32 >>> (20 &&& 31)) &&& 31)) from (rJ_s2 (show rJ (eb_pI (eb_pI (eb_pI (eb_pI z7.2 0 37 z9.toInt32) 0 38 ((z9.toInt32 >>> (7 &&& 31)) &&& 31)) 0 41 ((z9.toInt32 >>> (12 &&& 31)) &&& 7)) 0 39 ((z9.toInt32 >>> (15 &&& 31)) &&& 31)) from (rJ_s1 (show rJ (eb_pI (eb_pI (eb_pI z7.2 0 37 z9.toInt32) 0 38 ((z9.toInt32 >>> (7 &&& 31)) &&& 31)) 0 41 ((z9.toInt32 >>> (12 &&& 31)) &&& 7)) from (rJ_f3 (show rJ (eb_pI (eb_pI z7.2 0 37 z9.toInt32) 0 38 ((z9.toInt32 >>> (7 &&& 31)) &&& 31)) from (rJ_rd jz7 (pk_andIn _ 5 (by decide) (by decide)))) (pk_andIn _ 3 (by decide) (by decide)))) (pk_andIn _ 5 (by decide) (by decide)))) (pk_andIn _ 5 (by decide) (by decide))))
                                have hc : eb_M l yX10_illegal (Cond.code yX10_illegal cX10_illegal 1 (some .int) :: wsL_law) 1 23 D 18 cy rL ad (eb_pI (eb_pI (eb_pI (eb_pI (eb_pI (eb_pI z7.2 0 37 z9.toInt32) 0 38 ((z9.toInt32 >>> (7 &&& 31)) &&& 31)) 0 41 ((z9.toInt32 >>> (12 &&& 31)) &&& 7)) 0 39 ((z9.toInt32 >>> (15 &&& 31)) &&& 31)) 0 40 ((z9.toInt32 >>> (20 &&& 31)) &&& 31)) 0 42 (eb_iushr z9.toInt32 25)) [.ref (ad 0)] (some (.int z36.1)) z36.2 := by rw [qz36]; exact c_X10_illegal l D cy ad (eb_pI (eb_pI (eb_pI (eb_pI (eb_pI (eb_pI z7.2 0 37 z9.toInt32) 0 38 ((z9.toInt32 >>> (7 &&& 31)) &&& 31)) 0 41 ((z9.toInt32 >>> (12 &&& 31)) &&& 7)) 0 39 ((z9.toInt32 >>> (15 &&& 31)) &&& 31)) 0 40 ((z9.toInt32 >>> (20 &&& 31)) &&& 31)) 0 42 (eb_iushr z9.toInt32 25)) (show rJ (eb_pI (eb_pI (eb_pI (eb_pI (eb_pI z7.2 0 37 z9.toInt32) 0 38 ((z9.toInt32 >>> (7 &&& 31)) &&& 31)) 0 41 ((z9.toInt32 >>> (12 &&& 31)) &&& 7)) 0 39 ((z9.toInt32 >>> (15 &&& 31)) &&& 31)) 0 40 ((z9.toInt32 >>> (20 &&& 31)) &&& 31)) from (rJ_s2 (show rJ (eb_pI (eb_pI (eb_pI (eb_pI z7.2 0 37 z9.toInt32) 0 38 ((z9.toInt32 >>> (7 &&& 31)) &&& 31)) 0 41 ((z9.toInt32 >>> (12 &&& 31)) &&& 7)) 0 39 ((z9.toInt32 >>> (15 &&& 31)) &&& 31)) from (rJ_s1 (show rJ (eb_pI (eb_pI (eb_pI z7.2 0 37 z9.toInt32) 0 38 ((z9.toInt32 >>> (7 &&& 31)) &&& 31)) 0 41 ((z9.toInt32 >>> (12 &&& 31)) &&& 7)) from (rJ_f3 (show rJ (eb_pI (eb_pI z7.2 0 37 z9.toInt32) 0 38 ((z9.toInt32 >>> (7 &&& 31)) &&& 31)) from (rJ_rd jz7 (pk_andIn _ 5 (by decide) (by decide)))) (pk_andIn _ 3 (by decide) (by decide)))) (pk_andIn _ 5 (by decide) (by decide)))) (pk_andIn _ 5 (by decide) (by decide))))
                                refine eb_callV (n := 0) (as := []) (rest := []) X hw hl.1 0 hc (by decide) ⟨rfl, rfl, rfl⟩ (eb_goodV wi_32_23 wi_33_0 wi_33_1 wi_1_5 wi_33_2) rfl (by decide +kernel) ⟨by decide, by decide⟩ rfl rfl (Nat.le_of_ble_eq_true rfl) dX10_instruction_310 ⟨by decide, by decide⟩ (st' := [.int z36.1]) rfl (fun H locs hw => ?_)
                                refine lv_goto (tgt := 346) hx hb dX10_instruction_313 (by decide) ?_
                                subst hm
                                exact eb_iret X hw rfl rfl rfl dX10_instruction_346
                            · have hm := (if_neg h32).symm.trans hm
                              by_cases h37 : (z9.toInt32 &&& 127) = 111
                              · have hm := (if_pos h37).symm.trans hm
                                refine lv_lookup (off := 143) (tgt := 286) hx hb dX10_instruction_143 (by decide) (by rw [h37]; decide) (by decide) ?_
                                refine lv_aload_n hx hb dX10_instruction_286 rfl (lv_at hl 1 rfl) ?_
                                refine lv_lload_n hx hb dX10_instruction_287 rfl (lv_at hl 0 rfl) ?_
                                refine lv_aload_n hx hb dX10_instruction_288 rfl (lv_at hl 1 rfl) ?_
                                obtain ⟨z38, qz38⟩ : ∃ t : Int64, t = m_X10_jump (eb_pI (eb_pI (eb_pI (eb_pI (eb_pI (eb_pI z7.2 0 37 z9.toInt32) 0 38 ((z9.toInt32 >>> (7 &&& 31)) &&& 31)) 0 41 ((z9.toInt32 >>> (12 &&& 31)) &&& 7)) 0 39 ((z9.toInt32 >>> (15 &&& 31)) &&& 31)) 0 40 ((z9.toInt32 >>> (20 &&& 31)) &&& 31)) 0 42 (eb_iushr z9.toInt32 25)) := ⟨_, rfl⟩
                                have hm : (fun (z39 : Int32 × eb_St) => (z39.1, z39.2)) (m_X10_jumps (eb_pI (eb_pI (eb_pI (eb_pI (eb_pI (eb_pI z7.2 0 37 z9.toInt32) 0 38 ((z9.toInt32 >>> (7 &&& 31)) &&& 31)) 0 41 ((z9.toInt32 >>> (12 &&& 31)) &&& 7)) 0 39 ((z9.toInt32 >>> (15 &&& 31)) &&& 31)) 0 40 ((z9.toInt32 >>> (20 &&& 31)) &&& 31)) 0 42 (eb_iushr z9.toInt32 25)) (x2 + z38) (x2 + 4)) = mm := by rw [qz38]; exact hm
                                have hc : eb_M l yX10_jump (Cond.code yX10_jump cX10_jump 1 (some .long) :: wsL_law) 0 0 D 18 cy rL ad (eb_pI (eb_pI (eb_pI (eb_pI (eb_pI (eb_pI z7.2 0 37 z9.toInt32) 0 38 ((z9.toInt32 >>> (7 &&& 31)) &&& 31)) 0 41 ((z9.toInt32 >>> (12 &&& 31)) &&& 7)) 0 39 ((z9.toInt32 >>> (15 &&& 31)) &&& 31)) 0 40 ((z9.toInt32 >>> (20 &&& 31)) &&& 31)) 0 42 (eb_iushr z9.toInt32 25)) [.ref (ad 0)] (some (.long z38)) (eb_pI (eb_pI (eb_pI (eb_pI (eb_pI (eb_pI z7.2 0 37 z9.toInt32) 0 38 ((z9.toInt32 >>> (7 &&& 31)) &&& 31)) 0 41 ((z9.toInt32 >>> (12 &&& 31)) &&& 7)) 0 39 ((z9.toInt32 >>> (15 &&& 31)) &&& 31)) 0 40 ((z9.toInt32 >>> (20 &&& 31)) &&& 31)) 0 42 (eb_iushr z9.toInt32 25)) := by rw [qz38]; exact c_X10_jump l D cy ad (eb_pI (eb_pI (eb_pI (eb_pI (eb_pI (eb_pI z7.2 0 37 z9.toInt32) 0 38 ((z9.toInt32 >>> (7 &&& 31)) &&& 31)) 0 41 ((z9.toInt32 >>> (12 &&& 31)) &&& 7)) 0 39 ((z9.toInt32 >>> (15 &&& 31)) &&& 31)) 0 40 ((z9.toInt32 >>> (20 &&& 31)) &&& 31)) 0 42 (eb_iushr z9.toInt32 25)) 
                                refine eb_callV (n := 0) (as := []) (rest := [.long x2, .ref (ad 0)]) X hw hl.1 0 hc (by decide) ⟨rfl, rfl, rfl⟩ (eb_goodV wi_32_14 wi_32_15 wi_32_16 wi_1_5 wi_32_17) rfl (by decide +kernel) ⟨by decide, by decide⟩ rfl rfl (Nat.le_of_ble_eq_true rfl) dX10_instruction_289 ⟨by decide, by decide⟩ (st' := [.long z38, .long x2, .ref (ad 0)]) rfl (fun H locs hw => ?_)
                                refine lv_ladd hx hb dX10_instruction_292 ?_
                                refine lv_lload_n hx hb dX10_instruction_293 rfl (lv_at hl 0 rfl) ?_
                                refine lv_ldc2 hx hb hown (hts _ (List.mem_cons_of_mem _ wi_30_14)) dX10_instruction_294 ?_
                                refine lv_ladd hx hb dX10_instruction_297 ?_
                                obtain ⟨z39, qz39⟩ : ∃ t : Int32 × eb_St, t = m_X10_jumps (eb_pI (eb_pI (eb_pI (eb_pI (eb_pI (eb_pI z7.2 0 37 z9.toInt32) 0 38 ((z9.toInt32 >>> (7 &&& 31)) &&& 31)) 0 41 ((z9.toInt32 >>> (12 &&& 31)) &&& 7)) 0 39 ((z9.toInt32 >>> (15 &&& 31)) &&& 31)) 0 40 ((z9.toInt32 >>> (20 &&& 31)) &&& 31)) 0 42 (eb_iushr z9.toInt32 25)) (x2 + z38) (x2 + 4) := ⟨_, rfl⟩
                                have hm : (z39.1, z39.2) = mm := by rw [qz39]; exact hm
                                have jz39 : rJ z39.2 := J_X10_jumps qz39.symm (show rJ (eb_pI (eb_pI (eb_pI (eb_pI (eb_pI z7.2 0 37 z9.toInt32) 0 38 ((z9.toInt32 >>> (7 &&& 31)) &&& 31)) 0 41 ((z9.toInt32 >>> (12 &&& 31)) &&& 7)) 0 39 ((z9.toInt32 >>> (15 &&& 31)) &&& 31)) 0 40 ((z9.toInt32 >>> (20 &&& 31)) &&& 31)) from (rJ_s2 (show rJ (eb_pI (eb_pI (eb_pI (eb_pI z7.2 0 37 z9.toInt32) 0 38 ((z9.toInt32 >>> (7 &&& 31)) &&& 31)) 0 41 ((z9.toInt32 >>> (12 &&& 31)) &&& 7)) 0 39 ((z9.toInt32 >>> (15 &&& 31)) &&& 31)) from (rJ_s1 (show rJ (eb_pI (eb_pI (eb_pI z7.2 0 37 z9.toInt32) 0 38 ((z9.toInt32 >>> (7 &&& 31)) &&& 31)) 0 41 ((z9.toInt32 >>> (12 &&& 31)) &&& 7)) from (rJ_f3 (show rJ (eb_pI (eb_pI z7.2 0 37 z9.toInt32) 0 38 ((z9.toInt32 >>> (7 &&& 31)) &&& 31)) from (rJ_rd jz7 (pk_andIn _ 5 (by decide) (by decide)))) (pk_andIn _ 3 (by decide) (by decide)))) (pk_andIn _ 5 (by decide) (by decide)))) (pk_andIn _ 5 (by decide) (by decide))))
                                have hc : eb_M l yX10_jumps (Cond.code yX10_jumps cX10_jumps 5 (some .int) :: wsL_law) 2 43 D 18 cy rL ad (eb_pI (eb_pI (eb_pI (eb_pI (eb_pI (eb_pI z7.2 0 37 z9.toInt32) 0 38 ((z9.toInt32 >>> (7 &&& 31)) &&& 31)) 0 41 ((z9.toInt32 >>> (12 &&& 31)) &&& 7)) 0 39 ((z9.toInt32 >>> (15 &&& 31)) &&& 31)) 0 40 ((z9.toInt32 >>> (20 &&& 31)) &&& 31)) 0 42 (eb_iushr z9.toInt32 25)) [.ref (ad 0), .long (x2 + z38), .long (x2 + 4)] (some (.int z39.1)) z39.2 := by rw [qz39]; exact c_X10_jumps l D cy ad (eb_pI (eb_pI (eb_pI (eb_pI (eb_pI (eb_pI z7.2 0 37 z9.toInt32) 0 38 ((z9.toInt32 >>> (7 &&& 31)) &&& 31)) 0 41 ((z9.toInt32 >>> (12 &&& 31)) &&& 7)) 0 39 ((z9.toInt32 >>> (15 &&& 31)) &&& 31)) 0 40 ((z9.toInt32 >>> (20 &&& 31)) &&& 31)) 0 42 (eb_iushr z9.toInt32 25)) (x2 + z38) (x2 + 4) (show rJ (eb_pI (eb_pI (eb_pI (eb_pI (eb_pI z7.2 0 37 z9.toInt32) 0 38 ((z9.toInt32 >>> (7 &&& 31)) &&& 31)) 0 41 ((z9.toInt32 >>> (12 &&& 31)) &&& 7)) 0 39 ((z9.toInt32 >>> (15 &&& 31)) &&& 31)) 0 40 ((z9.toInt32 >>> (20 &&& 31)) &&& 31)) from (rJ_s2 (show rJ (eb_pI (eb_pI (eb_pI (eb_pI z7.2 0 37 z9.toInt32) 0 38 ((z9.toInt32 >>> (7 &&& 31)) &&& 31)) 0 41 ((z9.toInt32 >>> (12 &&& 31)) &&& 7)) 0 39 ((z9.toInt32 >>> (15 &&& 31)) &&& 31)) from (rJ_s1 (show rJ (eb_pI (eb_pI (eb_pI z7.2 0 37 z9.toInt32) 0 38 ((z9.toInt32 >>> (7 &&& 31)) &&& 31)) 0 41 ((z9.toInt32 >>> (12 &&& 31)) &&& 7)) from (rJ_f3 (show rJ (eb_pI (eb_pI z7.2 0 37 z9.toInt32) 0 38 ((z9.toInt32 >>> (7 &&& 31)) &&& 31)) from (rJ_rd jz7 (pk_andIn _ 5 (by decide) (by decide)))) (pk_andIn _ 3 (by decide) (by decide)))) (pk_andIn _ 5 (by decide) (by decide)))) (pk_andIn _ 5 (by decide) (by decide))))
                                refine eb_callV (n := 2) (as := [.long (x2 + z38), .long (x2 + 4)]) (rest := []) X hw hl.1 0 hc (by decide) ⟨rfl, rfl, rfl⟩ (eb_goodV wi_32_19 wi_32_20 wi_32_21 wi_1_5 wi_32_22) rfl (by decide +kernel) ⟨by decide, by decide⟩ rfl rfl (Nat.le_of_ble_eq_true rfl) dX10_instruction_298 ⟨by decide, by decide⟩ (st' := [.int z39.1]) rfl (fun H locs hw => ?_)
                                subst hm
                                exact eb_iret X hw rfl rfl rfl dX10_instruction_301
                              · have hm := (if_neg h37).symm.trans hm
                                by_cases h40 : (z9.toInt32 &&& 127) = 115
                                · have hm := (if_pos h40).symm.trans hm
                                  refine lv_lookup (off := 260) (tgt := 403) hx hb dX10_instruction_143 (by decide) (by rw [h40]; decide) (by decide) ?_
                                  refine lv_aload_n hx hb dX10_instruction_403 rfl (lv_at hl 1 rfl) ?_
                                  refine lv_lload_n hx hb dX10_instruction_404 rfl (lv_at hl 0 rfl) ?_
                                  obtain ⟨z41, qz41⟩ : ∃ t : Int32 × eb_St, t = m_X10_system (eb_pI (eb_pI (eb_pI (eb_pI (eb_pI (eb_pI z7.2 0 37 z9.toInt32) 0 38 ((z9.toInt32 >>> (7 &&& 31)) &&& 31)) 0 41 ((z9.toInt32 >>> (12 &&& 31)) &&& 7)) 0 39 ((z9.toInt32 >>> (15 &&& 31)) &&& 31)) 0 40 ((z9.toInt32 >>> (20 &&& 31)) &&& 31)) 0 42 (eb_iushr z9.toInt32 25)) x2 := ⟨_, rfl⟩
                                  have hm : (z41.1, z41.2) = mm := by rw [qz41]; exact hm
                                  have jz41 : rJ z41.2 := J_X10_system qz41.symm (show rJ (eb_pI (eb_pI (eb_pI (eb_pI (eb_pI z7.2 0 37 z9.toInt32) 0 38 ((z9.toInt32 >>> (7 &&& 31)) &&& 31)) 0 41 ((z9.toInt32 >>> (12 &&& 31)) &&& 7)) 0 39 ((z9.toInt32 >>> (15 &&& 31)) &&& 31)) 0 40 ((z9.toInt32 >>> (20 &&& 31)) &&& 31)) from (rJ_s2 (show rJ (eb_pI (eb_pI (eb_pI (eb_pI z7.2 0 37 z9.toInt32) 0 38 ((z9.toInt32 >>> (7 &&& 31)) &&& 31)) 0 41 ((z9.toInt32 >>> (12 &&& 31)) &&& 7)) 0 39 ((z9.toInt32 >>> (15 &&& 31)) &&& 31)) from (rJ_s1 (show rJ (eb_pI (eb_pI (eb_pI z7.2 0 37 z9.toInt32) 0 38 ((z9.toInt32 >>> (7 &&& 31)) &&& 31)) 0 41 ((z9.toInt32 >>> (12 &&& 31)) &&& 7)) from (rJ_f3 (show rJ (eb_pI (eb_pI z7.2 0 37 z9.toInt32) 0 38 ((z9.toInt32 >>> (7 &&& 31)) &&& 31)) from (rJ_rd jz7 (pk_andIn _ 5 (by decide) (by decide)))) (pk_andIn _ 3 (by decide) (by decide)))) (pk_andIn _ 5 (by decide) (by decide)))) (pk_andIn _ 5 (by decide) (by decide))))
                                  have hc : eb_M l yX10_system (Cond.code yX10_system cX10_system 3 (some .int) :: wsL_law) 8 206 D 18 cy rL ad (eb_pI (eb_pI (eb_pI (eb_pI (eb_pI (eb_pI z7.2 0 37 z9.toInt32) 0 38 ((z9.toInt32 >>> (7 &&& 31)) &&& 31)) 0 41 ((z9.toInt32 >>> (12 &&& 31)) &&& 7)) 0 39 ((z9.toInt32 >>> (15 &&& 31)) &&& 31)) 0 40 ((z9.toInt32 >>> (20 &&& 31)) &&& 31)) 0 42 (eb_iushr z9.toInt32 25)) [.ref (ad 0), .long x2] (some (.int z41.1)) z41.2 := by rw [qz41]; exact c_X10_system l D cy ad (eb_pI (eb_pI (eb_pI (eb_pI (eb_pI (eb_pI z7.2 0 37 z9.toInt32) 0 38 ((z9.toInt32 >>> (7 &&& 31)) &&& 31)) 0 41 ((z9.toInt32 >>> (12 &&& 31)) &&& 7)) 0 39 ((z9.toInt32 >>> (15 &&& 31)) &&& 31)) 0 40 ((z9.toInt32 >>> (20 &&& 31)) &&& 31)) 0 42 (eb_iushr z9.toInt32 25)) x2 (show rJ (eb_pI (eb_pI (eb_pI (eb_pI (eb_pI z7.2 0 37 z9.toInt32) 0 38 ((z9.toInt32 >>> (7 &&& 31)) &&& 31)) 0 41 ((z9.toInt32 >>> (12 &&& 31)) &&& 7)) 0 39 ((z9.toInt32 >>> (15 &&& 31)) &&& 31)) 0 40 ((z9.toInt32 >>> (20 &&& 31)) &&& 31)) from (rJ_s2 (show rJ (eb_pI (eb_pI (eb_pI (eb_pI z7.2 0 37 z9.toInt32) 0 38 ((z9.toInt32 >>> (7 &&& 31)) &&& 31)) 0 41 ((z9.toInt32 >>> (12 &&& 31)) &&& 7)) 0 39 ((z9.toInt32 >>> (15 &&& 31)) &&& 31)) from (rJ_s1 (show rJ (eb_pI (eb_pI (eb_pI z7.2 0 37 z9.toInt32) 0 38 ((z9.toInt32 >>> (7 &&& 31)) &&& 31)) 0 41 ((z9.toInt32 >>> (12 &&& 31)) &&& 7)) from (rJ_f3 (show rJ (eb_pI (eb_pI z7.2 0 37 z9.toInt32) 0 38 ((z9.toInt32 >>> (7 &&& 31)) &&& 31)) from (rJ_rd jz7 (pk_andIn _ 5 (by decide) (by decide)))) (pk_andIn _ 3 (by decide) (by decide)))) (pk_andIn _ 5 (by decide) (by decide)))) (pk_andIn _ 5 (by decide) (by decide))))
                                  refine eb_callV (n := 1) (as := [.long x2]) (rest := []) X hw hl.1 0 hc (by decide) ⟨rfl, rfl, rfl⟩ (eb_goodV wi_35_4 wi_35_5 wi_35_6 wi_1_5 wi_35_7) rfl (by decide +kernel) ⟨by decide, by decide⟩ rfl rfl (Nat.le_of_ble_eq_true rfl) dX10_instruction_405 ⟨by decide, by decide⟩ (st' := [.int z41.1]) rfl (fun H locs hw => ?_)
                                  subst hm
                                  exact eb_iret X hw rfl rfl rfl dX10_instruction_408
                                · have hm := (if_neg h40).symm.trans hm
                                  refine lv_lookup (off := 266) (tgt := 409) hx hb dX10_instruction_143 (by decide) (by show Op.lookupswitch.offset [(3, 210), (15, 240), (19, 220), (23, 127), (27, 225), (35, 215), (51, 230), (55, 113), (59, 235), (99, 204), (103, 159), (111, 143), (115, 260)] _ _ = _; rw [lv_osw h10 (by decide)]; rw [lv_osw h12 (by decide)]; rw [lv_osw h16 (by decide)]; rw [lv_osw h18 (by decide)]; rw [lv_osw h20 (by decide)]; rw [lv_osw h22 (by decide)]; rw [lv_osw h24 (by decide)]; rw [lv_osw h26 (by decide)]; rw [lv_osw h28 (by decide)]; rw [lv_osw h30 (by decide)]; rw [lv_osw h32 (by decide)]; rw [lv_osw h37 (by decide)]; rw [lv_osw h40 (by decide)]; rfl) (by decide) ?_
                                  refine lv_aload_n hx hb dX10_instruction_409 rfl (lv_at hl 1 rfl) ?_
                                  obtain ⟨z42, qz42⟩ : ∃ t : Int32 × eb_St, t = m_X10_illegal (eb_pI (eb_pI (eb_pI (eb_pI (eb_pI (eb_pI z7.2 0 37 z9.toInt32) 0 38 ((z9.toInt32 >>> (7 &&& 31)) &&& 31)) 0 41 ((z9.toInt32 >>> (12 &&& 31)) &&& 7)) 0 39 ((z9.toInt32 >>> (15 &&& 31)) &&& 31)) 0 40 ((z9.toInt32 >>> (20 &&& 31)) &&& 31)) 0 42 (eb_iushr z9.toInt32 25)) := ⟨_, rfl⟩
                                  have hm : (z42.1, z42.2) = mm := by rw [qz42]; exact hm
                                  have jz42 : rJ z42.2 := J_X10_illegal qz42.symm (show rJ (eb_pI (eb_pI (eb_pI (eb_pI (eb_pI z7.2 0 37 z9.toInt32) 0 38 ((z9.toInt32 >>> (7 &&& 31)) &&& 31)) 0 41 ((z9.toInt32 >>> (12 &&& 31)) &&& 7)) 0 39 ((z9.toInt32 >>> (15 &&& 31)) &&& 31)) 0 40 ((z9.toInt32 >>> (20 &&& 31)) &&& 31)) from (rJ_s2 (show rJ (eb_pI (eb_pI (eb_pI (eb_pI z7.2 0 37 z9.toInt32) 0 38 ((z9.toInt32 >>> (7 &&& 31)) &&& 31)) 0 41 ((z9.toInt32 >>> (12 &&& 31)) &&& 7)) 0 39 ((z9.toInt32 >>> (15 &&& 31)) &&& 31)) from (rJ_s1 (show rJ (eb_pI (eb_pI (eb_pI z7.2 0 37 z9.toInt32) 0 38 ((z9.toInt32 >>> (7 &&& 31)) &&& 31)) 0 41 ((z9.toInt32 >>> (12 &&& 31)) &&& 7)) from (rJ_f3 (show rJ (eb_pI (eb_pI z7.2 0 37 z9.toInt32) 0 38 ((z9.toInt32 >>> (7 &&& 31)) &&& 31)) from (rJ_rd jz7 (pk_andIn _ 5 (by decide) (by decide)))) (pk_andIn _ 3 (by decide) (by decide)))) (pk_andIn _ 5 (by decide) (by decide)))) (pk_andIn _ 5 (by decide) (by decide))))
                                  have hc : eb_M l yX10_illegal (Cond.code yX10_illegal cX10_illegal 1 (some .int) :: wsL_law) 1 23 D 18 cy rL ad (eb_pI (eb_pI (eb_pI (eb_pI (eb_pI (eb_pI z7.2 0 37 z9.toInt32) 0 38 ((z9.toInt32 >>> (7 &&& 31)) &&& 31)) 0 41 ((z9.toInt32 >>> (12 &&& 31)) &&& 7)) 0 39 ((z9.toInt32 >>> (15 &&& 31)) &&& 31)) 0 40 ((z9.toInt32 >>> (20 &&& 31)) &&& 31)) 0 42 (eb_iushr z9.toInt32 25)) [.ref (ad 0)] (some (.int z42.1)) z42.2 := by rw [qz42]; exact c_X10_illegal l D cy ad (eb_pI (eb_pI (eb_pI (eb_pI (eb_pI (eb_pI z7.2 0 37 z9.toInt32) 0 38 ((z9.toInt32 >>> (7 &&& 31)) &&& 31)) 0 41 ((z9.toInt32 >>> (12 &&& 31)) &&& 7)) 0 39 ((z9.toInt32 >>> (15 &&& 31)) &&& 31)) 0 40 ((z9.toInt32 >>> (20 &&& 31)) &&& 31)) 0 42 (eb_iushr z9.toInt32 25)) (show rJ (eb_pI (eb_pI (eb_pI (eb_pI (eb_pI z7.2 0 37 z9.toInt32) 0 38 ((z9.toInt32 >>> (7 &&& 31)) &&& 31)) 0 41 ((z9.toInt32 >>> (12 &&& 31)) &&& 7)) 0 39 ((z9.toInt32 >>> (15 &&& 31)) &&& 31)) 0 40 ((z9.toInt32 >>> (20 &&& 31)) &&& 31)) from (rJ_s2 (show rJ (eb_pI (eb_pI (eb_pI (eb_pI z7.2 0 37 z9.toInt32) 0 38 ((z9.toInt32 >>> (7 &&& 31)) &&& 31)) 0 41 ((z9.toInt32 >>> (12 &&& 31)) &&& 7)) 0 39 ((z9.toInt32 >>> (15 &&& 31)) &&& 31)) from (rJ_s1 (show rJ (eb_pI (eb_pI (eb_pI z7.2 0 37 z9.toInt32) 0 38 ((z9.toInt32 >>> (7 &&& 31)) &&& 31)) 0 41 ((z9.toInt32 >>> (12 &&& 31)) &&& 7)) from (rJ_f3 (show rJ (eb_pI (eb_pI z7.2 0 37 z9.toInt32) 0 38 ((z9.toInt32 >>> (7 &&& 31)) &&& 31)) from (rJ_rd jz7 (pk_andIn _ 5 (by decide) (by decide)))) (pk_andIn _ 3 (by decide) (by decide)))) (pk_andIn _ 5 (by decide) (by decide)))) (pk_andIn _ 5 (by decide) (by decide))))
                                  refine eb_callV (n := 0) (as := []) (rest := []) X hw hl.1 0 hc (by decide) ⟨rfl, rfl, rfl⟩ (eb_goodV wi_32_23 wi_33_0 wi_33_1 wi_1_5 wi_33_2) rfl (by decide +kernel) ⟨by decide, by decide⟩ rfl rfl (Nat.le_of_ble_eq_true rfl) dX10_instruction_410 ⟨by decide, by decide⟩ (st' := [.int z42.1]) rfl (fun H locs hw => ?_)
                                  subst hm
                                  exact eb_iret X hw rfl rfl rfl dX10_instruction_413
      · have hm := (if_pos h8).symm.trans hm
        refine lv_aload_n hx hb dX10_instruction_50 rfl (lv_at hl 1 rfl) ?_
        refine lv_iconst (v := 1) hx hb dX10_instruction_51 (by decide) ?_
        refine lv_lload_n hx hb dX10_instruction_52 rfl (lv_at hl 0 rfl) ?_
        obtain ⟨z43, qz43⟩ : ∃ t : Int32 × eb_St, t = m_X10_fault z7.2 1 x2 := ⟨_, rfl⟩
        have hm : (z43.1, z43.2) = mm := by rw [qz43]; exact hm
        have jz43 : rJ z43.2 := J_X10_fault qz43.symm jz7
        have hc : eb_M l yX10_fault (Cond.code yX10_fault cX10_fault 4 (some .int) :: wsL_law) 0 0 D 18 cy rL ad z7.2 [.ref (ad 0), .int 1, .long x2] (some (.int z43.1)) z43.2 := by rw [qz43]; exact c_X10_fault l D cy ad z7.2 1 x2 jz7
        refine eb_callV (n := 2) (as := [.int 1, .long x2]) (rest := []) X hw hl.1 0 hc (by decide) ⟨rfl, rfl, rfl⟩ (eb_goodV wi_30_20 wi_30_21 wi_30_22 wi_1_5 wi_30_23) rfl (by decide +kernel) ⟨by decide, by decide⟩ rfl rfl (Nat.le_of_ble_eq_true rfl) dX10_instruction_53 ⟨by decide, by decide⟩ (st' := [.int z43.1]) rfl (fun H locs hw => ?_)
        subst hm
        exact eb_iret X hw rfl rfl rfl dX10_instruction_56
  · have hm := (if_neg h3).symm.trans hm
    refine lv_aload_n hx hb dX10_instruction_20 rfl (lv_at hl 1 rfl) ?_
    refine lv_iconst (v := 0) hx hb dX10_instruction_21 (by decide) ?_
    refine lv_lload_n hx hb dX10_instruction_22 rfl (lv_at hl 0 rfl) ?_
    obtain ⟨z44, qz44⟩ : ∃ t : Int32 × eb_St, t = m_X10_fault σ 0 x2 := ⟨_, rfl⟩
    have hm : (z44.1, z44.2) = mm := by rw [qz44]; exact hm
    have jz44 : rJ z44.2 := J_X10_fault qz44.symm hj_
    have hc : eb_M l yX10_fault (Cond.code yX10_fault cX10_fault 4 (some .int) :: wsL_law) 0 0 D 18 cy rL ad σ [.ref (ad 0), .int 0, .long x2] (some (.int z44.1)) z44.2 := by rw [qz44]; exact c_X10_fault l D cy ad σ 0 x2 hj_
    refine eb_callV (n := 2) (as := [.int 0, .long x2]) (rest := []) X hw hl.1 0 hc (by decide) ⟨rfl, rfl, rfl⟩ (eb_goodV wi_30_20 wi_30_21 wi_30_22 wi_1_5 wi_30_23) rfl (by decide +kernel) ⟨by decide, by decide⟩ rfl rfl (Nat.le_of_ble_eq_true rfl) dX10_instruction_23 ⟨by decide, by decide⟩ (st' := [.int z44.1]) rfl (fun H locs hw => ?_)
    subst hm
    exact eb_iret X hw rfl rfl rfl dX10_instruction_26

theorem J_X10_step_98 {σ : eb_St} {v1 : Int32} {mm : eb_St} (hm : (m_X10_step_98  σ v1) = mm) (hj_ : rJ σ) : rJ mm := by
  have hm : (if v1 < 0 then σ else (if (σ.1 0 8) = v1 then (if (σ.2 0 31) = 0 then σ else (if ((σ.1 0 32).toInt64) = (σ.2 0 31) then (fun (z14 : eb_St) => z14) (m_X10_ends σ 2 1 0) else σ)) else σ)) = mm := hm
  refine eb_em (c := v1 < 0) (fun h10 => ?_) (fun h10 => ?_)
  · have hm := (if_pos h10).symm.trans hm
    subst hm
    exact hj_
  · have hm := (if_neg h10).symm.trans hm
    refine eb_emn (c := (σ.1 0 8) = v1) (fun h11 => ?_) (fun h11 => ?_)
    · have hm := (if_neg h11).symm.trans hm
      subst hm
      exact hj_
    · have hm := (if_pos h11).symm.trans hm
      refine eb_em (c := (σ.2 0 31) = 0) (fun h12 => ?_) (fun h12 => ?_)
      · have hm := (if_pos h12).symm.trans hm
        subst hm
        exact hj_
      · have hm := (if_neg h12).symm.trans hm
        refine eb_emn (c := ((σ.1 0 32).toInt64) = (σ.2 0 31)) (fun h13 => ?_) (fun h13 => ?_)
        · have hm := (if_neg h13).symm.trans hm
          subst hm
          exact hj_
        · have hm := (if_pos h13).symm.trans hm
          obtain ⟨z14, qz14⟩ : ∃ t : eb_St, t = m_X10_ends σ 2 1 0 := ⟨_, rfl⟩
          have hm : z14 = mm := by rw [qz14]; exact hm
          have jz14 : rJ z14 := J_X10_ends qz14.symm hj_ (rJ_in hj_ (by rw [h11]; exact h10))
          subst hm
          exact jz14
theorem J_X10_step_68 {σ : eb_St} {v1 : Int32} {mm : eb_St} (hm : (m_X10_step_68  σ v1) = mm) (hj_ : rJ σ) : rJ mm := by
  have hm : (fun (z6 : Int32 × eb_St) => (fun (x7 : Int32) => (if x7 = (-1) then m_X10_step_98  (eb_pI z6.2 0 9 ((z6.2.1 0 9) + 1)) v1 else (fun (z9 : eb_St) => m_X10_step_98  z9 v1) (m_X10_fails (eb_pI z6.2 0 9 ((z6.2.1 0 9) + 1)) x7))) (z6.1)) (m_X10_instruction (eb_pJ σ 0 36 0)) = mm := hm
  obtain ⟨z6, qz6⟩ : ∃ t : Int32 × eb_St, t = m_X10_instruction (eb_pJ σ 0 36 0) := ⟨_, rfl⟩
  have hm : (fun (x7 : Int32) => (if x7 = (-1) then m_X10_step_98  (eb_pI z6.2 0 9 ((z6.2.1 0 9) + 1)) v1 else (fun (z9 : eb_St) => m_X10_step_98  z9 v1) (m_X10_fails (eb_pI z6.2 0 9 ((z6.2.1 0 9) + 1)) x7))) (z6.1) = mm := by rw [qz6]; exact hm
  have jz6 : rJ z6.2 := J_X10_instruction qz6.symm hj_
  obtain ⟨x7, ex7⟩ : ∃ z : Int32, z = z6.1 := ⟨_, rfl⟩
  have hm : (if x7 = (-1) then m_X10_step_98  (eb_pI z6.2 0 9 ((z6.2.1 0 9) + 1)) v1 else (fun (z9 : eb_St) => m_X10_step_98  z9 v1) (m_X10_fails (eb_pI z6.2 0 9 ((z6.2.1 0 9) + 1)) x7)) = mm := by rw [ex7]; exact hm
  refine eb_em (c := x7 = (-1)) (fun h8 => ?_) (fun h8 => ?_)
  · have hm := (if_pos h8).symm.trans hm
    exact J_X10_step_98 hm jz6
  · have hm := (if_neg h8).symm.trans hm
    obtain ⟨z9, qz9⟩ : ∃ t : eb_St, t = m_X10_fails (eb_pI z6.2 0 9 ((z6.2.1 0 9) + 1)) x7 := ⟨_, rfl⟩
    have hm : m_X10_step_98  z9 v1 = mm := by rw [qz9]; exact hm
    have jz9 : rJ z9 := J_X10_fails qz9.symm jz6
    exact J_X10_step_98 hm jz9
theorem J_X10_step_39 {σ : eb_St}  {mm : eb_St} (hm : (m_X10_step_39  σ ) = mm) (hj_ : rJ σ) : rJ mm := by
  have hm : (fun (x4 : Int32) => (if x4 < 0 then m_X10_step_68  σ x4 else m_X10_step_68  (eb_pI (eb_pI σ 13 x4.toNatClampNeg ((σ.1 13 x4.toNatClampNeg) + 1)) 0 32 ((σ.1 0 32) + 1)) x4)) (σ.1 0 8) = mm := hm
  obtain ⟨x4, ex4⟩ : ∃ z : Int32, z = σ.1 0 8 := ⟨_, rfl⟩
  have hm : (if x4 < 0 then m_X10_step_68  σ x4 else m_X10_step_68  (eb_pI (eb_pI σ 13 x4.toNatClampNeg ((σ.1 13 x4.toNatClampNeg) + 1)) 0 32 ((σ.1 0 32) + 1)) x4) = mm := by rw [ex4]; exact hm
  refine eb_em (c := x4 < 0) (fun h5 => ?_) (fun h5 => ?_)
  · have hm := (if_pos h5).symm.trans hm
    exact J_X10_step_68 hm hj_
  · have hm := (if_neg h5).symm.trans hm
    exact J_X10_step_68 hm hj_
theorem J_X10_step {σ : eb_St}  {mm : eb_St} (hm : m_X10_step σ = mm) (hj_ : rJ σ) : rJ mm := by
  have hm : (if (σ.1 0 14) = 0 then m_X10_step_39  σ else (if (σ.1 0 8) < 0 then m_X10_step_39  (eb_pI (eb_pI σ 0 14 0) 0 13 ((σ.1 0 13) + 1)) else (fun (z3 : eb_St) => m_X10_step_39  z3) (m_X10_ends (eb_pI σ 0 14 0) 2 1 0))) = mm := hm
  refine eb_em (c := (σ.1 0 14) = 0) (fun h1 => ?_) (fun h1 => ?_)
  · have hm := (if_pos h1).symm.trans hm
    exact J_X10_step_39 hm hj_
  · have hm := (if_neg h1).symm.trans hm
    refine eb_em (c := (σ.1 0 8) < 0) (fun h2 => ?_) (fun h2 => ?_)
    · have hm := (if_pos h2).symm.trans hm
      exact J_X10_step_39 hm hj_
    · have hm := (if_neg h2).symm.trans hm
      obtain ⟨z3, qz3⟩ : ∃ t : eb_St, t = m_X10_ends (eb_pI σ 0 14 0) 2 1 0 := ⟨_, rfl⟩
      have hm : m_X10_step_39  z3 = mm := by rw [qz3]; exact hm
      have jz3 : rJ z3 := J_X10_ends qz3.symm hj_ (rJ_in hj_ h2)
      exact J_X10_step_39 hm jz3
set_option maxHeartbeats 4000000 in
set_option maxRecDepth 100000 in
theorem k_X10_step_98 {p : Program} {l : Launch} {e : Env} {s : State} {m : MethodId} {args : Array Value} {below : List Frame} {meth : Method} {c : Code} {A : Nat → Prop} {H : Heap} {locs : List Loc} {ls : Array Slot} {D : va_G} {cy : Nat → ClassId} {ad : Nat → Nat} (X : eb_X p s m args meth c cX10_step 3 RX10 (Cond.code yX10_step cX10_step 3 none :: wsL_law) none D cy A)   (σ : eb_St) (v1 : Int32) (hj_ : rJ σ) {mm : eb_St} (hm : (m_X10_step_98  σ v1) = mm) (hw : eb_H D 18 cy rL ad A s.heap σ H locs) (hl : lv_has ls 3 [(0, .ref (ad 0)), (1, .int v1)]) : W p l e ({ frames := 10, cells := 0, slots := 0, locals := 250 } : Room) s m args below meth c H locs 0 0 (MQ below (eb_Q D 18 cy rL ad A (none) mm) args s 0 0 A) (F0 m 98 ls []) := by
  have hx := X.1.1
  have hb := X.1.2.1
  have hown := X.1.2.2.2.1
  have hts := X.1.2.2.2.2
  have hm : (if v1 < 0 then σ else (if (σ.1 0 8) = v1 then (if (σ.2 0 31) = 0 then σ else (if ((σ.1 0 32).toInt64) = (σ.2 0 31) then (fun (z14 : eb_St) => z14) (m_X10_ends σ 2 1 0) else σ)) else σ)) = mm := hm
  refine lv_iload_n hx hb dX10_step_98 rfl (lv_at hl 1 rfl) ?_
  refine lv_if_lt (tgt := 139) hx hb dX10_step_99 (by decide) (fun h10 => ?_) (fun h10 => ?_)
  · have hm := (if_pos h10).symm.trans hm
    subst hm
    exact eb_vret X hw rfl rfl dX10_step_139
  · have hm := (if_neg h10).symm.trans hm
    refine lv_aload_n hx hb dX10_step_102 rfl (lv_at hl 0 rfl) ?_
    refine eb_get (T := TX10) X hw 0 8 (by decide) ⟨rfl, rfl, rfl⟩ (by decide) (fun _ h => List.mem_cons_of_mem _ (inlX10 _ h)) (List.mem_cons_of_mem _ wi_5_13) (v := .int (σ.1 0 8)) rfl dX10_step_103 ?_
    refine lv_iload_n hx hb dX10_step_106 rfl (lv_at hl 1 rfl) ?_
    refine lv_icmp_ne (tgt := 139) hx hb dX10_step_107 (by decide) (fun h11 => ?_) (fun h11 => ?_)
    · have hm := (if_neg h11).symm.trans hm
      subst hm
      exact eb_vret X hw rfl rfl dX10_step_139
    · have hm := (if_pos h11).symm.trans hm
      refine lv_aload_n hx hb dX10_step_110 rfl (lv_at hl 0 rfl) ?_
      refine eb_get (T := TX10) X hw 0 31 (by decide) ⟨rfl, rfl, rfl⟩ (by decide) (fun _ h => List.mem_cons_of_mem _ (inlX10 _ h)) (List.mem_cons_of_mem _ wi_29_18) (v := .long (σ.2 0 31)) rfl dX10_step_111 ?_
      refine lv_lconst (v := 0) hx hb dX10_step_114 (by decide) ?_
      refine eb_lif_eq (tgt := 139) hx hb dX10_step_115 dX10_step_116 (by decide) (fun h12 => ?_) (fun h12 => ?_)
      · have hm := (if_pos h12).symm.trans hm
        subst hm
        exact eb_vret X hw rfl rfl dX10_step_139
      · have hm := (if_neg h12).symm.trans hm
        refine lv_aload_n hx hb dX10_step_119 rfl (lv_at hl 0 rfl) ?_
        refine eb_get (T := TX10) X hw 0 32 (by decide) ⟨rfl, rfl, rfl⟩ (by decide) (fun _ h => List.mem_cons_of_mem _ (inlX10 _ h)) (List.mem_cons_of_mem _ wi_29_16) (v := .int (σ.1 0 32)) rfl dX10_step_120 ?_
        refine lv_i2l (v := (σ.1 0 32).toInt64) hx hb dX10_step_123 rfl ?_
        refine lv_aload_n hx hb dX10_step_124 rfl (lv_at hl 0 rfl) ?_
        refine eb_get (T := TX10) X hw 0 31 (by decide) ⟨rfl, rfl, rfl⟩ (by decide) (fun _ h => List.mem_cons_of_mem _ (inlX10 _ h)) (List.mem_cons_of_mem _ wi_29_18) (v := .long (σ.2 0 31)) rfl dX10_step_125 ?_
        refine eb_lif_ne (tgt := 139) hx hb dX10_step_128 dX10_step_129 (by decide) (fun h13 => ?_) (fun h13 => ?_)
        · have hm := (if_neg h13).symm.trans hm
          subst hm
          exact eb_vret X hw rfl rfl dX10_step_139
        · have hm := (if_pos h13).symm.trans hm
          refine lv_aload_n hx hb dX10_step_132 rfl (lv_at hl 0 rfl) ?_
          refine lv_iconst (v := 2) hx hb dX10_step_133 (by decide) ?_
          refine lv_lconst (v := 1) hx hb dX10_step_134 (by decide) ?_
          refine lv_lconst (v := 0) hx hb dX10_step_135 (by decide) ?_
          obtain ⟨z14, qz14⟩ : ∃ t : eb_St, t = m_X10_ends σ 2 1 0 := ⟨_, rfl⟩
          have hm : z14 = mm := by rw [qz14]; exact hm
          have jz14 : rJ z14 := J_X10_ends qz14.symm hj_ (rJ_in hj_ (by rw [h11]; exact h10))
          have hc : eb_M l yX10_ends (Cond.code yX10_ends cX10_ends 6 none :: wsL_law) 1 24 D 18 cy rL ad σ [.ref (ad 0), .int 2, .long 1, .long 0] (none) z14 := by rw [qz14]; exact c_X10_ends l D cy ad σ 2 1 0 hj_ (rJ_in hj_ (by rw [h11]; exact h10))
          refine eb_callV (n := 3) (as := [.int 2, .long 1, .long 0]) (rest := []) X hw hl.1 0 hc (by decide) ⟨rfl, rfl, rfl⟩ (eb_goodV wi_29_19 wi_29_20 wi_29_21 wi_1_5 wi_29_22) rfl (by decide +kernel) ⟨by decide, by decide⟩ rfl rfl (Nat.le_of_ble_eq_true rfl) dX10_step_136 ⟨by decide, by decide⟩ (st' := []) rfl (fun H locs hw => ?_)
          subst hm
          exact eb_vret X hw rfl rfl dX10_step_139
set_option maxHeartbeats 4000000 in
set_option maxRecDepth 100000 in
theorem k_X10_step_68 {p : Program} {l : Launch} {e : Env} {s : State} {m : MethodId} {args : Array Value} {below : List Frame} {meth : Method} {c : Code} {A : Nat → Prop} {H : Heap} {locs : List Loc} {ls : Array Slot} {D : va_G} {cy : Nat → ClassId} {ad : Nat → Nat} (X : eb_X p s m args meth c cX10_step 3 RX10 (Cond.code yX10_step cX10_step 3 none :: wsL_law) none D cy A)   (σ : eb_St) (v1 : Int32) (hj_ : rJ σ) {mm : eb_St} (hm : (m_X10_step_68  σ v1) = mm) (hw : eb_H D 18 cy rL ad A s.heap σ H locs) (hl : lv_has ls 3 [(0, .ref (ad 0)), (1, .int v1)]) : W p l e ({ frames := 10, cells := 0, slots := 0, locals := 250 } : Room) s m args below meth c H locs 0 0 (MQ below (eb_Q D 18 cy rL ad A (none) mm) args s 0 0 A) (F0 m 68 ls []) := by
  have hx := X.1.1
  have hb := X.1.2.1
  have hown := X.1.2.2.2.1
  have hts := X.1.2.2.2.2
  have hm : (fun (z6 : Int32 × eb_St) => (fun (x7 : Int32) => (if x7 = (-1) then m_X10_step_98  (eb_pI z6.2 0 9 ((z6.2.1 0 9) + 1)) v1 else (fun (z9 : eb_St) => m_X10_step_98  z9 v1) (m_X10_fails (eb_pI z6.2 0 9 ((z6.2.1 0 9) + 1)) x7))) (z6.1)) (m_X10_instruction (eb_pJ σ 0 36 0)) = mm := hm
  refine lv_aload_n hx hb dX10_step_68 rfl (lv_at hl 0 rfl) ?_
  refine lv_lconst (v := 0) hx hb dX10_step_69 (by decide) ?_
  refine eb_putJ (T := TX10) X hw 0 36 (by decide) ⟨rfl, rfl, rfl⟩ (by decide) rfl (fun _ h => List.mem_cons_of_mem _ (inlX10 _ h)) (List.mem_cons_of_mem _ wi_29_17) tyX10 tyX10_ok nmX10 rfl rfl rfl dX10_step_70 (fun H locs hw => ?_)
  refine lv_aload_n hx hb dX10_step_73 rfl (lv_at hl 0 rfl) ?_
  obtain ⟨z6, qz6⟩ : ∃ t : Int32 × eb_St, t = m_X10_instruction (eb_pJ σ 0 36 0) := ⟨_, rfl⟩
  have hm : (fun (x7 : Int32) => (if x7 = (-1) then m_X10_step_98  (eb_pI z6.2 0 9 ((z6.2.1 0 9) + 1)) v1 else (fun (z9 : eb_St) => m_X10_step_98  z9 v1) (m_X10_fails (eb_pI z6.2 0 9 ((z6.2.1 0 9) + 1)) x7))) (z6.1) = mm := by rw [qz6]; exact hm
  have jz6 : rJ z6.2 := J_X10_instruction qz6.symm hj_
  have hc : eb_M l yX10_instruction (Cond.code yX10_instruction cX10_instruction 3 (some .int) :: wsL_law) 9 228 D 18 cy rL ad (eb_pJ σ 0 36 0) [.ref (ad 0)] (some (.int z6.1)) z6.2 := by rw [qz6]; exact c_X10_instruction l D cy ad (eb_pJ σ 0 36 0) hj_
  refine eb_callV (n := 0) (as := []) (rest := []) X hw hl.1 0 hc (by decide) ⟨rfl, rfl, rfl⟩ (eb_goodV wi_30_3 wi_30_4 wi_30_5 wi_1_5 wi_30_6) rfl (by decide +kernel) ⟨by decide, by decide⟩ rfl rfl (Nat.le_of_ble_eq_true rfl) dX10_step_74 ⟨by decide, by decide⟩ (st' := [.int z6.1]) rfl (fun H locs hw => ?_)
  refine lv_topi (fun x7 ex7 => ?_)
  have hm : (if x7 = (-1) then m_X10_step_98  (eb_pI z6.2 0 9 ((z6.2.1 0 9) + 1)) v1 else (fun (z9 : eb_St) => m_X10_step_98  z9 v1) (m_X10_fails (eb_pI z6.2 0 9 ((z6.2.1 0 9) + 1)) x7)) = mm := by rw [ex7]; exact hm
  refine lv_istore_n (lv' := [(2, .int x7), (0, .ref (ad 0)), (1, .int v1)]) hx hb dX10_step_77 rfl hl (by decide) rfl (fun ls hl => ?_)
  refine lv_aload_n hx hb dX10_step_78 rfl (lv_at hl 1 rfl) ?_
  refine lv_dup hx hb dX10_step_79 rfl ?_
  refine eb_get (T := TX10) X hw 0 9 (by decide) ⟨rfl, rfl, rfl⟩ (by decide) (fun _ h => List.mem_cons_of_mem _ (inlX10 _ h)) (List.mem_cons_of_mem _ wi_9_10) (v := .int (z6.2.1 0 9)) rfl dX10_step_80 ?_
  refine lv_iconst (v := 1) hx hb dX10_step_83 (by decide) ?_
  refine lv_iadd hx hb dX10_step_84 ?_
  refine eb_putI (T := TX10) X hw 0 9 (by decide) ⟨rfl, rfl, rfl⟩ (by decide) rfl (fun _ h => List.mem_cons_of_mem _ (inlX10 _ h)) (List.mem_cons_of_mem _ wi_9_10) tyX10 tyX10_ok nmX10 rfl rfl rfl dX10_step_85 (fun H locs hw => ?_)
  refine lv_iload_n hx hb dX10_step_88 rfl (lv_at hl 0 rfl) ?_
  refine lv_iconst (v := (-1)) hx hb dX10_step_89 (by decide) ?_
  refine lv_icmp_eq (tgt := 98) hx hb dX10_step_90 (by decide) (fun h8 => ?_) (fun h8 => ?_)
  · have hm := (if_pos h8).symm.trans hm
    exact k_X10_step_98 X   (eb_pI z6.2 0 9 ((z6.2.1 0 9) + 1)) v1 jz6 hm hw (lv_sub hl [1, 2] rfl)
  · have hm := (if_neg h8).symm.trans hm
    refine lv_aload_n hx hb dX10_step_93 rfl (lv_at hl 1 rfl) ?_
    refine lv_iload_n hx hb dX10_step_94 rfl (lv_at hl 0 rfl) ?_
    obtain ⟨z9, qz9⟩ : ∃ t : eb_St, t = m_X10_fails (eb_pI z6.2 0 9 ((z6.2.1 0 9) + 1)) x7 := ⟨_, rfl⟩
    have hm : m_X10_step_98  z9 v1 = mm := by rw [qz9]; exact hm
    have jz9 : rJ z9 := J_X10_fails qz9.symm jz6
    have hc : eb_M l yX10_fails (Cond.code yX10_fails cX10_fails 2 none :: wsL_law) 2 49 D 18 cy rL ad (eb_pI z6.2 0 9 ((z6.2.1 0 9) + 1)) [.ref (ad 0), .int x7] (none) z9 := by rw [qz9]; exact c_X10_fails l D cy ad (eb_pI z6.2 0 9 ((z6.2.1 0 9) + 1)) x7 jz6
    refine eb_callV (n := 1) (as := [.int x7]) (rest := []) X hw hl.1 0 hc (by decide) ⟨rfl, rfl, rfl⟩ (eb_goodV wi_38_16 wi_38_17 wi_38_18 wi_1_5 wi_38_19) rfl (by decide +kernel) ⟨by decide, by decide⟩ rfl rfl (Nat.le_of_ble_eq_true rfl) dX10_step_95 ⟨by decide, by decide⟩ (st' := []) rfl (fun H locs hw => ?_)
    exact k_X10_step_98 X   z9 v1 jz9 hm hw (lv_sub hl [1, 2] rfl)
set_option maxHeartbeats 4000000 in
set_option maxRecDepth 100000 in
theorem k_X10_step_39 {p : Program} {l : Launch} {e : Env} {s : State} {m : MethodId} {args : Array Value} {below : List Frame} {meth : Method} {c : Code} {A : Nat → Prop} {H : Heap} {locs : List Loc} {ls : Array Slot} {D : va_G} {cy : Nat → ClassId} {ad : Nat → Nat} (X : eb_X p s m args meth c cX10_step 3 RX10 (Cond.code yX10_step cX10_step 3 none :: wsL_law) none D cy A)   (σ : eb_St)  (hj_ : rJ σ) {mm : eb_St} (hm : (m_X10_step_39  σ ) = mm) (hw : eb_H D 18 cy rL ad A s.heap σ H locs) (hl : lv_has ls 3 [(0, .ref (ad 0))]) : W p l e ({ frames := 10, cells := 0, slots := 0, locals := 250 } : Room) s m args below meth c H locs 0 0 (MQ below (eb_Q D 18 cy rL ad A (none) mm) args s 0 0 A) (F0 m 39 ls []) := by
  have hx := X.1.1
  have hb := X.1.2.1
  have hown := X.1.2.2.2.1
  have hts := X.1.2.2.2.2
  have hm : (fun (x4 : Int32) => (if x4 < 0 then m_X10_step_68  σ x4 else m_X10_step_68  (eb_pI (eb_pI σ 13 x4.toNatClampNeg ((σ.1 13 x4.toNatClampNeg) + 1)) 0 32 ((σ.1 0 32) + 1)) x4)) (σ.1 0 8) = mm := hm
  refine lv_aload_n hx hb dX10_step_39 rfl (lv_at hl 0 rfl) ?_
  refine eb_get (T := TX10) X hw 0 8 (by decide) ⟨rfl, rfl, rfl⟩ (by decide) (fun _ h => List.mem_cons_of_mem _ (inlX10 _ h)) (List.mem_cons_of_mem _ wi_5_13) (v := .int (σ.1 0 8)) rfl dX10_step_40 ?_
  refine lv_topi (fun x4 ex4 => ?_)
  have hm : (if x4 < 0 then m_X10_step_68  σ x4 else m_X10_step_68  (eb_pI (eb_pI σ 13 x4.toNatClampNeg ((σ.1 13 x4.toNatClampNeg) + 1)) 0 32 ((σ.1 0 32) + 1)) x4) = mm := by rw [ex4]; exact hm
  refine lv_istore_n (lv' := [(1, .int x4), (0, .ref (ad 0))]) hx hb dX10_step_43 rfl hl (by decide) rfl (fun ls hl => ?_)
  refine lv_iload_n hx hb dX10_step_44 rfl (lv_at hl 0 rfl) ?_
  refine lv_if_lt (tgt := 68) hx hb dX10_step_45 (by decide) (fun h5 => ?_) (fun h5 => ?_)
  · have hm := (if_pos h5).symm.trans hm
    exact k_X10_step_68 X   σ x4 hj_ hm hw (lv_sub hl [1, 0] rfl)
  · have hm := (if_neg h5).symm.trans hm
    refine lv_aload_n hx hb dX10_step_48 rfl (lv_at hl 1 rfl) ?_
    refine eb_get (T := TX10) X hw 0 29 (by decide) ⟨rfl, rfl, rfl⟩ (by decide) (fun _ h => List.mem_cons_of_mem _ (inlX10 _ h)) (List.mem_cons_of_mem _ wi_5_23) (v := .ref (ad 13)) rfl dX10_step_49 ?_
    refine lv_iload_n hx hb dX10_step_52 rfl (lv_at hl 0 rfl) ?_
    refine lv_dup2_11 hx hb dX10_step_53 rfl rfl ?_
    refine eb_iald (n := 6) X hw 13 (by decide) rfl rfl (by rw [ex4]; exact rJ_in hj_ (by rw [← ex4]; exact h5)) dX10_step_54 ?_
    refine lv_iconst (v := 1) hx hb dX10_step_55 (by decide) ?_
    refine lv_iadd hx hb dX10_step_56 ?_
    refine eb_iast (n := 6) X hw 13 (by decide) rfl rfl (by rw [ex4]; exact rJ_in hj_ (by rw [← ex4]; exact h5)) dX10_step_57 (fun H locs hw => ?_)
    refine lv_aload_n hx hb dX10_step_58 rfl (lv_at hl 1 rfl) ?_
    refine lv_dup hx hb dX10_step_59 rfl ?_
    refine eb_get (T := TX10) X hw 0 32 (by decide) ⟨rfl, rfl, rfl⟩ (by decide) (fun _ h => List.mem_cons_of_mem _ (inlX10 _ h)) (List.mem_cons_of_mem _ wi_29_16) (v := .int (σ.1 0 32)) rfl dX10_step_60 ?_
    refine lv_iconst (v := 1) hx hb dX10_step_63 (by decide) ?_
    refine lv_iadd hx hb dX10_step_64 ?_
    refine eb_putI (T := TX10) X hw 0 32 (by decide) ⟨rfl, rfl, rfl⟩ (by decide) rfl (fun _ h => List.mem_cons_of_mem _ (inlX10 _ h)) (List.mem_cons_of_mem _ wi_29_16) tyX10 tyX10_ok nmX10 rfl rfl rfl dX10_step_65 (fun H locs hw => ?_)
    exact k_X10_step_68 X   (eb_pI (eb_pI σ 13 x4.toNatClampNeg ((σ.1 13 x4.toNatClampNeg) + 1)) 0 32 ((σ.1 0 32) + 1)) x4 hj_ hm hw (lv_sub hl [1, 0] rfl)
set_option maxHeartbeats 4000000 in
set_option maxRecDepth 100000 in
theorem c_X10_step (l : Launch) (D : va_G) (cy : Nat → ClassId) (ad : Nat → Nat) (σ : eb_St)  (hj_ : rJ σ) : eb_M l yX10_step (Cond.code yX10_step cX10_step 3 none :: wsL_law) 10 250 D 18 cy rL ad σ [.ref (ad 0)] (none) (m_X10_step σ) := by
  refine eb_start (own := RX10) (by decide) rfl rfl (Nat.le_of_ble_eq_true rfl) ?_
  intro p e s m args below meth c A ls X hw hl
  have hl : lv_has ls 3 [(0, .ref (ad 0))] := hl
  have hx := X.1.1
  have hb := X.1.2.1
  have hown := X.1.2.2.2.1
  have hts := X.1.2.2.2.2
  generalize hm : m_X10_step σ = mm
  have hm : (if (σ.1 0 14) = 0 then m_X10_step_39  σ else (if (σ.1 0 8) < 0 then m_X10_step_39  (eb_pI (eb_pI σ 0 14 0) 0 13 ((σ.1 0 13) + 1)) else (fun (z3 : eb_St) => m_X10_step_39  z3) (m_X10_ends (eb_pI σ 0 14 0) 2 1 0))) = mm := hm
  refine lv_aload_n hx hb dX10_step_0 rfl (lv_at hl 0 rfl) ?_
  refine eb_get (T := TX10) X hw 0 14 (by decide) ⟨rfl, rfl, rfl⟩ (by decide) (fun _ h => List.mem_cons_of_mem _ (inlX10 _ h)) (List.mem_cons_of_mem _ wi_9_15) (v := .int (σ.1 0 14)) rfl dX10_step_1 ?_
  refine lv_if_eq (tgt := 39) hx hb dX10_step_4 (by decide) (fun h1 => ?_) (fun h1 => ?_)
  · have hm := (if_pos h1).symm.trans hm
    exact k_X10_step_39 X   σ hj_ hm hw (lv_sub hl [0] rfl)
  · have hm := (if_neg h1).symm.trans hm
    refine lv_aload_n hx hb dX10_step_7 rfl (lv_at hl 0 rfl) ?_
    refine lv_iconst (v := 0) hx hb dX10_step_8 (by decide) ?_
    refine eb_putI (T := TX10) X hw 0 14 (by decide) ⟨rfl, rfl, rfl⟩ (by decide) rfl (fun _ h => List.mem_cons_of_mem _ (inlX10 _ h)) (List.mem_cons_of_mem _ wi_9_15) tyX10 tyX10_ok nmX10 rfl rfl rfl dX10_step_9 (fun H locs hw => ?_)
    refine lv_aload_n hx hb dX10_step_12 rfl (lv_at hl 0 rfl) ?_
    refine eb_get (T := TX10) X hw 0 8 (by decide) ⟨rfl, rfl, rfl⟩ (by decide) (fun _ h => List.mem_cons_of_mem _ (inlX10 _ h)) (List.mem_cons_of_mem _ wi_5_13) (v := .int (σ.1 0 8)) rfl dX10_step_13 ?_
    refine lv_if_lt (tgt := 29) hx hb dX10_step_16 (by decide) (fun h2 => ?_) (fun h2 => ?_)
    · have hm := (if_pos h2).symm.trans hm
      refine lv_aload_n hx hb dX10_step_29 rfl (lv_at hl 0 rfl) ?_
      refine lv_dup hx hb dX10_step_30 rfl ?_
      refine eb_get (T := TX10) X hw 0 13 (by decide) ⟨rfl, rfl, rfl⟩ (by decide) (fun _ h => List.mem_cons_of_mem _ (inlX10 _ h)) (List.mem_cons_of_mem _ wi_9_14) (v := .int (σ.1 0 13)) rfl dX10_step_31 ?_
      refine lv_iconst (v := 1) hx hb dX10_step_34 (by decide) ?_
      refine lv_iadd hx hb dX10_step_35 ?_
      refine eb_putI (T := TX10) X hw 0 13 (by decide) ⟨rfl, rfl, rfl⟩ (by decide) rfl (fun _ h => List.mem_cons_of_mem _ (inlX10 _ h)) (List.mem_cons_of_mem _ wi_9_14) tyX10 tyX10_ok nmX10 rfl rfl rfl dX10_step_36 (fun H locs hw => ?_)
      exact k_X10_step_39 X   (eb_pI (eb_pI σ 0 14 0) 0 13 ((σ.1 0 13) + 1)) hj_ hm hw (lv_sub hl [0] rfl)
    · have hm := (if_neg h2).symm.trans hm
      refine lv_aload_n hx hb dX10_step_19 rfl (lv_at hl 0 rfl) ?_
      refine lv_iconst (v := 2) hx hb dX10_step_20 (by decide) ?_
      refine lv_lconst (v := 1) hx hb dX10_step_21 (by decide) ?_
      refine lv_lconst (v := 0) hx hb dX10_step_22 (by decide) ?_
      obtain ⟨z3, qz3⟩ : ∃ t : eb_St, t = m_X10_ends (eb_pI σ 0 14 0) 2 1 0 := ⟨_, rfl⟩
      have hm : m_X10_step_39  z3 = mm := by rw [qz3]; exact hm
      have jz3 : rJ z3 := J_X10_ends qz3.symm hj_ (rJ_in hj_ h2)
      have hc : eb_M l yX10_ends (Cond.code yX10_ends cX10_ends 6 none :: wsL_law) 1 24 D 18 cy rL ad (eb_pI σ 0 14 0) [.ref (ad 0), .int 2, .long 1, .long 0] (none) z3 := by rw [qz3]; exact c_X10_ends l D cy ad (eb_pI σ 0 14 0) 2 1 0 hj_ (rJ_in hj_ h2)
      refine eb_callV (n := 3) (as := [.int 2, .long 1, .long 0]) (rest := []) X hw hl.1 0 hc (by decide) ⟨rfl, rfl, rfl⟩ (eb_goodV wi_29_19 wi_29_20 wi_29_21 wi_1_5 wi_29_22) rfl (by decide +kernel) ⟨by decide, by decide⟩ rfl rfl (Nat.le_of_ble_eq_true rfl) dX10_step_23 ⟨by decide, by decide⟩ (st' := []) rfl (fun H locs hw => ?_)
      refine lv_goto (tgt := 39) hx hb dX10_step_26 (by decide) ?_
      exact k_X10_step_39 X   z3 jz3 hm hw (lv_sub hl [0] rfl)

theorem J_X10_run_16 : ∀ (n : Nat) (σ : eb_St) (v1 : Int32) (v2 : Int32) {mm : Int32 × eb_St} (_ : (m_X10_run_16  n σ v1 v2) = mm) (hj_ : rJ σ)  (hn : (v1.toInt - v2.toInt).toNat < n), rJ mm.2 := by
  intro n
  induction n with
  | zero => intro σ v1 v2 mm hm hj_ hn; exact absurd hn (Nat.not_lt_zero _)
  | succ n ih =>
    intro σ v1 v2 mm hm hj_ hn
    have hm : (if v1 ≤ v2 then (v2, σ) else (if (σ.1 0 5) = 0 then (fun (z5 : eb_St) => (fun (x6 : Int32) => m_X10_run_16  n z5 v1 x6) (v2 + 1)) (m_X10_step σ) else (v2, σ))) = mm := hm
    refine eb_em (c := v1 ≤ v2) (fun h3 => ?_) (fun h3 => ?_)
    · have hm := (if_pos h3).symm.trans hm
      subst hm
      exact hj_
    · have hm := (if_neg h3).symm.trans hm
      refine eb_emn (c := (σ.1 0 5) = 0) (fun h4 => ?_) (fun h4 => ?_)
      · have hm := (if_neg h4).symm.trans hm
        subst hm
        exact hj_
      · have hm := (if_pos h4).symm.trans hm
        obtain ⟨z5, qz5⟩ : ∃ t : eb_St, t = m_X10_step σ := ⟨_, rfl⟩
        have hm : (fun (x6 : Int32) => m_X10_run_16  n z5 v1 x6) (v2 + 1) = mm := by rw [qz5]; exact hm
        have jz5 : rJ z5 := J_X10_step qz5.symm hj_
        obtain ⟨x6, ex6⟩ : ∃ z : Int32, z = v2 + 1 := ⟨_, rfl⟩
        have hm : m_X10_run_16  n z5 v1 x6 = mm := by rw [ex6]; exact hm
        exact ih z5 v1 x6 hm jz5 (eb_up1 (eb_nle h3) ex6 hn)
theorem J_X10_run {σ : eb_St} {a0 : Int32} {mm : Int32 × eb_St} (hm : m_X10_run σ a0 = mm) (hj_ : rJ σ) : rJ mm.2 := by
  have hm : (fun (z1 : Bool) => (if (eb_b z1) = 0 then ((-1), σ) else m_X10_run_16  ((a0.toInt - (0 : Int32).toInt).toNat + 1) σ a0 0)) (m_X10_in a0.toInt64 1 5000) = mm := hm
  obtain ⟨z1, qz1⟩ : ∃ t : Bool, t = m_X10_in a0.toInt64 1 5000 := ⟨_, rfl⟩
  have hm : (if (eb_b z1) = 0 then ((-1), σ) else m_X10_run_16  ((a0.toInt - (0 : Int32).toInt).toNat + 1) σ a0 0) = mm := by rw [qz1]; exact hm
  refine eb_emn (c := (eb_b z1) = 0) (fun h2 => ?_) (fun h2 => ?_)
  · have hm := (if_neg h2).symm.trans hm
    exact J_X10_run_16 ((a0.toInt - (0 : Int32).toInt).toNat + 1) σ a0 0 hm hj_ (Nat.lt_succ_self _)
  · have hm := (if_pos h2).symm.trans hm
    subst hm
    exact hj_
set_option maxHeartbeats 4000000 in
set_option maxRecDepth 100000 in
theorem k_X10_run_16 {p : Program} {l : Launch} {e : Env} {s : State} {m : MethodId} {args : Array Value} {below : List Frame} {meth : Method} {c : Code} {A : Nat → Prop} {D : va_G} {cy : Nat → ClassId} {ad : Nat → Nat} (X : eb_X p s m args meth c cX10_run 3 RX10 (Cond.code yX10_run cX10_run 3 (some .int) :: wsL_law) (some .int) D cy A)   : ∀ (n : Nat) (σ : eb_St) (v1 : Int32) (v2 : Int32) (hj_ : rJ σ)  (hn : (v1.toInt - v2.toInt).toNat < n) {H : Heap} {locs : List Loc} {ls : Array Slot} {mm : Int32 × eb_St} (_ : (m_X10_run_16  n σ v1 v2) = mm) (hw : eb_H D 18 cy rL ad A s.heap σ H locs) (hl : lv_has ls 3 [(0, .ref (ad 0)), (1, .int v1), (2, .int v2)]), W p l e ({ frames := 11, cells := 0, slots := 0, locals := 272 } : Room) s m args below meth c H locs 0 0 (MQ below (eb_Q D 18 cy rL ad A (some (.int mm.1)) mm.2) args s 0 0 A) (F0 m 16 ls []) := by
  have hx := X.1.1
  have hb := X.1.2.1
  have hown := X.1.2.2.2.1
  have hts := X.1.2.2.2.2
  intro n
  induction n with
  | zero => intro σ v1 v2 hj_ hn; exact absurd hn (Nat.not_lt_zero _)
  | succ n ih =>
    intro σ v1 v2 hj_ hn H locs ls mm hm hw hl
    have hm : (if v1 ≤ v2 then (v2, σ) else (if (σ.1 0 5) = 0 then (fun (z5 : eb_St) => (fun (x6 : Int32) => m_X10_run_16  n z5 v1 x6) (v2 + 1)) (m_X10_step σ) else (v2, σ))) = mm := hm
    refine lv_iload_n hx hb dX10_run_16 rfl (lv_at hl 2 rfl) ?_
    refine lv_iload_n hx hb dX10_run_17 rfl (lv_at hl 1 rfl) ?_
    refine lv_icmp_ge (tgt := 38) hx hb dX10_run_18 (by decide) (fun h3 => ?_) (fun h3 => ?_)
    · have hm := (if_pos h3).symm.trans hm
      refine lv_iload_n hx hb dX10_run_38 rfl (lv_at hl 2 rfl) ?_
      subst hm
      exact eb_iret X hw rfl rfl rfl dX10_run_39
    · have hm := (if_neg h3).symm.trans hm
      refine lv_aload_n hx hb dX10_run_21 rfl (lv_at hl 0 rfl) ?_
      refine eb_get (T := TX10) X hw 0 5 (by decide) ⟨rfl, rfl, rfl⟩ (by decide) (fun _ h => List.mem_cons_of_mem _ (inlX10 _ h)) (List.mem_cons_of_mem _ wi_9_8) (v := .int (σ.1 0 5)) rfl dX10_run_22 ?_
      refine lv_if_ne (tgt := 38) hx hb dX10_run_25 (by decide) (fun h4 => ?_) (fun h4 => ?_)
      · have hm := (if_neg h4).symm.trans hm
        refine lv_iload_n hx hb dX10_run_38 rfl (lv_at hl 2 rfl) ?_
        subst hm
        exact eb_iret X hw rfl rfl rfl dX10_run_39
      · have hm := (if_pos h4).symm.trans hm
        refine lv_aload_n hx hb dX10_run_28 rfl (lv_at hl 0 rfl) ?_
        obtain ⟨z5, qz5⟩ : ∃ t : eb_St, t = m_X10_step σ := ⟨_, rfl⟩
        have hm : (fun (x6 : Int32) => m_X10_run_16  n z5 v1 x6) (v2 + 1) = mm := by rw [qz5]; exact hm
        have jz5 : rJ z5 := J_X10_step qz5.symm hj_
        have hc : eb_M l yX10_step (Cond.code yX10_step cX10_step 3 none :: wsL_law) 10 250 D 18 cy rL ad σ [.ref (ad 0)] (none) z5 := by rw [qz5]; exact c_X10_step l D cy ad σ hj_
        refine eb_callV (n := 0) (as := []) (rest := []) X hw hl.1 0 hc (by decide) ⟨rfl, rfl, rfl⟩ (eb_goodV wi_29_12 wi_29_13 wi_29_14 wi_1_5 wi_29_15) rfl (by decide +kernel) ⟨by decide, by decide⟩ rfl rfl (Nat.le_of_ble_eq_true rfl) dX10_run_29 ⟨by decide, by decide⟩ (st' := []) rfl (fun H locs hw => ?_)
        obtain ⟨x6, ex6⟩ : ∃ z : Int32, z = v2 + 1 := ⟨_, rfl⟩
        have hm : m_X10_run_16  n z5 v1 x6 = mm := by rw [ex6]; exact hm
        refine lv_iinc (v := x6) (lv' := [(2, .int x6), (0, .ref (ad 0)), (1, .int v1)]) hx hb dX10_run_32 hl (k := 2) rfl (by rw [ex6]; exact congrArg (v2 + ·) (by decide)) (by decide) rfl (fun ls hl => ?_)
        refine lv_goto (tgt := 16) hx hb dX10_run_35 (by decide) ?_
        exact ih z5 v1 x6 jz5 (eb_up1 (eb_nle h3) ex6 hn) hm hw (lv_sub hl [1, 2, 0] rfl)
set_option maxHeartbeats 4000000 in
set_option maxRecDepth 100000 in
theorem c_X10_run (l : Launch) (D : va_G) (cy : Nat → ClassId) (ad : Nat → Nat) (σ : eb_St) (a0 : Int32) (hj_ : rJ σ) : eb_M l yX10_run (Cond.code yX10_run cX10_run 3 (some .int) :: wsL_law) 11 272 D 18 cy rL ad σ [.ref (ad 0), .int a0] (some (.int (m_X10_run σ a0).1)) ((m_X10_run σ a0).2) := by
  refine eb_start (own := RX10) (by decide) rfl rfl (Nat.le_of_ble_eq_true rfl) ?_
  intro p e s m args below meth c A ls X hw hl
  have hl : lv_has ls 3 [(0, .ref (ad 0)), (1, .int a0)] := hl
  have hx := X.1.1
  have hb := X.1.2.1
  have hown := X.1.2.2.2.1
  have hts := X.1.2.2.2.2
  generalize hm : m_X10_run σ a0 = mm
  have hm : (fun (z1 : Bool) => (if (eb_b z1) = 0 then ((-1), σ) else m_X10_run_16  ((a0.toInt - (0 : Int32).toInt).toNat + 1) σ a0 0)) (m_X10_in a0.toInt64 1 5000) = mm := hm
  refine lv_iload_n hx hb dX10_run_0 rfl (lv_at hl 1 rfl) ?_
  refine lv_i2l (v := a0.toInt64) hx hb dX10_run_1 rfl ?_
  refine lv_lconst (v := 1) hx hb dX10_run_2 (by decide) ?_
  refine lv_ldc2 hx hb hown (hts _ (List.mem_cons_of_mem _ wi_29_8)) dX10_run_3 ?_
  obtain ⟨z1, qz1⟩ : ∃ t : Bool, t = m_X10_in a0.toInt64 1 5000 := ⟨_, rfl⟩
  have hm : (if (eb_b z1) = 0 then ((-1), σ) else m_X10_run_16  ((a0.toInt - (0 : Int32).toInt).toNat + 1) σ a0 0) = mm := by rw [qz1]; exact hm
  have hc : eb_M l yX10_in (Cond.code yX10_in cX10_in 6 (some .boolean) :: wsL_law) 0 0 D 18 cy rL ad σ [.long a0.toInt64, .long 1, .long 5000] (some (.int (eb_b z1))) σ := by rw [qz1]; exact c_X10_in l D cy ad σ a0.toInt64 1 5000
  refine eb_callS (n := 3) X hw hl.1 (rest := []) hc (eb_goodS wi_29_9 wi_29_10 wi_1_5 wi_29_11) rfl (by decide +kernel) ⟨by decide, by decide⟩ rfl rfl (Nat.le_of_ble_eq_true rfl) dX10_run_6 ⟨by decide, by decide⟩ (st' := [.int (eb_b z1)]) rfl (fun H locs hw => ?_)
  refine lv_if_ne (tgt := 14) hx hb dX10_run_9 (by decide) (fun h2 => ?_) (fun h2 => ?_)
  · have hm := (if_neg h2).symm.trans hm
    refine lv_iconst (v := 0) hx hb dX10_run_14 (by decide) ?_
    refine lv_istore_n (lv' := [(2, .int 0), (0, .ref (ad 0)), (1, .int a0)]) hx hb dX10_run_15 rfl hl (by decide) rfl (fun ls hl => ?_)
    exact k_X10_run_16 X   ((a0.toInt - (0 : Int32).toInt).toNat + 1) σ a0 0 hj_ (Nat.lt_succ_self _) hm hw (lv_sub hl [1, 2, 0] rfl)
  · have hm := (if_pos h2).symm.trans hm
    refine lv_iconst (v := (-1)) hx hb dX10_run_12 (by decide) ?_
    subst hm
    exact eb_iret X hw rfl rfl rfl dX10_run_13

theorem J_X10_reset_146 : ∀ (n : Nat) (σ : eb_St) (v3 : Int32) {mm : eb_St} (_ : (m_X10_reset_146  n σ v3) = mm) (hj_ : rJ σ) (i0_ : 0 ≤ v3.toInt) (hn : ((16 : Int32).toInt - v3.toInt).toNat < n), rJ mm := by
  intro n
  induction n with
  | zero => intro σ v3 mm hm hj_ i0_ hn; exact absurd hn (Nat.not_lt_zero _)
  | succ n ih =>
    intro σ v3 mm hm hj_ i0_ hn
    have hm : (if (16 : Int32) ≤ v3 then eb_pI σ 0 35 0 else (fun (x10 : Int32) => m_X10_reset_146  n (eb_pJ (eb_pI σ 4 v3.toNatClampNeg 0) 5 v3.toNatClampNeg 0) x10) (v3 + 1)) = mm := hm
    refine eb_em (c := (16 : Int32) ≤ v3) (fun h9 => ?_) (fun h9 => ?_)
    · have hm := (if_pos h9).symm.trans hm
      subst hm
      exact hj_
    · have hm := (if_neg h9).symm.trans hm
      obtain ⟨x10, ex10⟩ : ∃ z : Int32, z = v3 + 1 := ⟨_, rfl⟩
      have hm : m_X10_reset_146  n (eb_pJ (eb_pI σ 4 v3.toNatClampNeg 0) 5 v3.toNatClampNeg 0) x10 = mm := by rw [ex10]; exact hm
      exact ih (eb_pJ (eb_pI σ 4 v3.toNatClampNeg 0) 5 v3.toNatClampNeg 0) x10 hm (show rJ (eb_pJ (eb_pI σ 4 v3.toNatClampNeg 0) 5 v3.toNatClampNeg 0) from rJ_ad hj_ (by decide)) (eb_up i0_ (eb_nle h9) ex10 hn).1 (eb_up i0_ (eb_nle h9) ex10 hn).2
theorem J_X10_reset_36 : ∀ (n : Nat) (σ : eb_St) (v1 : Int64) (v3 : Int32) {mm : eb_St} (_ : (m_X10_reset_36  n σ v1 v3) = mm) (hj_ : rJ σ) (i0_ : 0 ≤ v3.toInt) (hn : ((224 : Int32).toInt - v3.toInt).toNat < n), rJ mm := by
  intro n
  induction n with
  | zero => intro σ v1 v3 mm hm hj_ i0_ hn; exact absurd hn (Nat.not_lt_zero _)
  | succ n ih =>
    intro σ v1 v3 mm hm hj_ i0_ hn
    have hm : (if (224 : Int32) ≤ v3 then m_X10_reset_146  17 (eb_pJ (eb_pJ (eb_pJ (eb_pJ (eb_pJ (eb_pI (eb_pI (eb_pI (eb_pI (eb_pI (eb_pI (eb_pI (eb_pJ (eb_pI (eb_pI (eb_pI (eb_pJ σ 3 ((6 : Int32).toNatClampNeg) v1) 0 4 1) 0 5 0) 0 6 (-1)) 0 7 0) 0 8 (-1)) 0 9 0) 0 10 0) 0 11 0) 0 12 0) 0 13 0) 0 14 0) 0 15 0) 0 16 0) 0 17 0) 0 18 0) 0 19 0) 0 else (fun (x8 : Int32) => m_X10_reset_36  n (eb_pJ σ 2 v3.toNatClampNeg 0) v1 x8) (v3 + 1)) = mm := hm
    refine eb_em (c := (224 : Int32) ≤ v3) (fun h7 => ?_) (fun h7 => ?_)
    · have hm := (if_pos h7).symm.trans hm
      exact J_X10_reset_146 17 (eb_pJ (eb_pJ (eb_pJ (eb_pJ (eb_pJ (eb_pI (eb_pI (eb_pI (eb_pI (eb_pI (eb_pI (eb_pI (eb_pJ (eb_pI (eb_pI (eb_pI (eb_pJ σ 3 ((6 : Int32).toNatClampNeg) v1) 0 4 1) 0 5 0) 0 6 (-1)) 0 7 0) 0 8 (-1)) 0 9 0) 0 10 0) 0 11 0) 0 12 0) 0 13 0) 0 14 0) 0 15 0) 0 16 0) 0 17 0) 0 18 0) 0 19 0) 0 hm (show rJ (eb_pI (eb_pJ (eb_pI (eb_pI (eb_pI (eb_pJ σ 3 ((6 : Int32).toNatClampNeg) v1) 0 4 1) 0 5 0) 0 6 (-1)) 0 7 0) 0 8 (-1)) from (rJ_m1 (show rJ (eb_pI (eb_pJ σ 3 ((6 : Int32).toNatClampNeg) v1) 0 4 1) from (rJ_mach hj_ (Or.inr rfl))))) (by decide) (by decide)
    · have hm := (if_neg h7).symm.trans hm
      obtain ⟨x8, ex8⟩ : ∃ z : Int32, z = v3 + 1 := ⟨_, rfl⟩
      have hm : m_X10_reset_36  n (eb_pJ σ 2 v3.toNatClampNeg 0) v1 x8 = mm := by rw [ex8]; exact hm
      exact ih (eb_pJ σ 2 v3.toNatClampNeg 0) v1 x8 hm hj_ (eb_up i0_ (eb_nle h7) ex8 hn).1 (eb_up i0_ (eb_nle h7) ex8 hn).2
theorem J_X10_reset_2 : ∀ (n : Nat) (σ : eb_St) (v1 : Int64) (v3 : Int32) {mm : eb_St} (_ : (m_X10_reset_2  n σ v1 v3) = mm) (hj_ : rJ σ) (i0_ : 0 ≤ v3.toInt) (hn : ((6 : Int32).toInt - v3.toInt).toNat < n), rJ mm := by
  intro n
  induction n with
  | zero => intro σ v1 v3 mm hm hj_ i0_ hn; exact absurd hn (Nat.not_lt_zero _)
  | succ n ih =>
    intro σ v1 v3 mm hm hj_ i0_ hn
    have hm : (if (6 : Int32) ≤ v3 then m_X10_reset_36  225 σ v1 0 else (fun (z2 : Bool) => (if (eb_b z2) = 0 then (fun (x4 : Int32) => m_X10_reset_2  n (eb_pI σ 6 v3.toNatClampNeg 0) v1 x4) (v3 + 1) else (fun (z5 : eb_St) => (fun (x6 : Int32) => m_X10_reset_2  n (eb_pI z5 6 v3.toNatClampNeg 0) v1 x6) (v3 + 1)) (m_X10_clearMemory σ v3))) (m_X10_isLive σ v3)) = mm := hm
    refine eb_em (c := (6 : Int32) ≤ v3) (fun h1 => ?_) (fun h1 => ?_)
    · have hm := (if_pos h1).symm.trans hm
      exact J_X10_reset_36 225 σ v1 0 hm hj_ (by decide) (by decide)
    · have hm := (if_neg h1).symm.trans hm
      obtain ⟨z2, qz2⟩ : ∃ t : Bool, t = m_X10_isLive σ v3 := ⟨_, rfl⟩
      have hm : (if (eb_b z2) = 0 then (fun (x4 : Int32) => m_X10_reset_2  n (eb_pI σ 6 v3.toNatClampNeg 0) v1 x4) (v3 + 1) else (fun (z5 : eb_St) => (fun (x6 : Int32) => m_X10_reset_2  n (eb_pI z5 6 v3.toNatClampNeg 0) v1 x6) (v3 + 1)) (m_X10_clearMemory σ v3)) = mm := by rw [qz2]; exact hm
      refine eb_em (c := (eb_b z2) = 0) (fun h3 => ?_) (fun h3 => ?_)
      · have hm := (if_pos h3).symm.trans hm
        obtain ⟨x4, ex4⟩ : ∃ z : Int32, z = v3 + 1 := ⟨_, rfl⟩
        have hm : m_X10_reset_2  n (eb_pI σ 6 v3.toNatClampNeg 0) v1 x4 = mm := by rw [ex4]; exact hm
        exact ih (eb_pI σ 6 v3.toNatClampNeg 0) v1 x4 hm (show rJ (eb_pI σ 6 v3.toNatClampNeg 0) from rJ_w hj_ (Or.inl rfl)) (eb_up i0_ (eb_nle h1) ex4 hn).1 (eb_up i0_ (eb_nle h1) ex4 hn).2
      · have hm := (if_neg h3).symm.trans hm
        obtain ⟨z5, qz5⟩ : ∃ t : eb_St, t = m_X10_clearMemory σ v3 := ⟨_, rfl⟩
        have hm : (fun (x6 : Int32) => m_X10_reset_2  n (eb_pI z5 6 v3.toNatClampNeg 0) v1 x6) (v3 + 1) = mm := by rw [qz5]; exact hm
        have jz5 : rJ z5 := J_X10_clearMemory qz5.symm hj_ (eb_inU (by decide) i0_ (eb_nle h1))
        obtain ⟨x6, ex6⟩ : ∃ z : Int32, z = v3 + 1 := ⟨_, rfl⟩
        have hm : m_X10_reset_2  n (eb_pI z5 6 v3.toNatClampNeg 0) v1 x6 = mm := by rw [ex6]; exact hm
        exact ih (eb_pI z5 6 v3.toNatClampNeg 0) v1 x6 hm (show rJ (eb_pI z5 6 v3.toNatClampNeg 0) from rJ_w jz5 (Or.inl rfl)) (eb_up i0_ (eb_nle h1) ex6 hn).1 (eb_up i0_ (eb_nle h1) ex6 hn).2
theorem J_X10_reset {σ : eb_St} {a0 : Int64} {mm : eb_St} (hm : m_X10_reset σ a0 = mm) (hj_ : rJ σ) : rJ mm := by
  have hm : m_X10_reset_2  7 σ a0 0 = mm := hm
  exact J_X10_reset_2 7 σ a0 0 hm hj_ (by decide) (by decide)
set_option maxHeartbeats 4000000 in
set_option maxRecDepth 100000 in
theorem k_X10_reset_146 {p : Program} {l : Launch} {e : Env} {s : State} {m : MethodId} {args : Array Value} {below : List Frame} {meth : Method} {c : Code} {A : Nat → Prop} {D : va_G} {cy : Nat → ClassId} {ad : Nat → Nat} (X : eb_X p s m args meth c cX10_reset 4 RX10 (Cond.code yX10_reset cX10_reset 4 none :: wsL_law) none D cy A)   : ∀ (n : Nat) (σ : eb_St) (v3 : Int32) (hj_ : rJ σ) (i0_ : 0 ≤ v3.toInt) (hn : ((16 : Int32).toInt - v3.toInt).toNat < n) {H : Heap} {locs : List Loc} {ls : Array Slot} {mm : eb_St} (_ : (m_X10_reset_146  n σ v3) = mm) (hw : eb_H D 18 cy rL ad A s.heap σ H locs) (hl : lv_has ls 4 [(0, .ref (ad 0)), (3, .int v3)]), W p l e ({ frames := 1, cells := 0, slots := 0, locals := 22 } : Room) s m args below meth c H locs 0 0 (MQ below (eb_Q D 18 cy rL ad A (none) mm) args s 0 0 A) (F0 m 146 ls []) := by
  have hx := X.1.1
  have hb := X.1.2.1
  have hown := X.1.2.2.2.1
  have hts := X.1.2.2.2.2
  intro n
  induction n with
  | zero => intro σ v3 hj_ i0_ hn; exact absurd hn (Nat.not_lt_zero _)
  | succ n ih =>
    intro σ v3 hj_ i0_ hn H locs ls mm hm hw hl
    have hm : (if (16 : Int32) ≤ v3 then eb_pI σ 0 35 0 else (fun (x10 : Int32) => m_X10_reset_146  n (eb_pJ (eb_pI σ 4 v3.toNatClampNeg 0) 5 v3.toNatClampNeg 0) x10) (v3 + 1)) = mm := hm
    refine lv_iload_n hx hb dX10_reset_146 rfl (lv_at hl 1 rfl) ?_
    refine lv_bipush (v := 16) hx hb dX10_reset_147 (by decide) ?_
    refine lv_icmp_ge (tgt := 172) hx hb dX10_reset_149 (by decide) (fun h9 => ?_) (fun h9 => ?_)
    · have hm := (if_pos h9).symm.trans hm
      refine lv_aload_n hx hb dX10_reset_172 rfl (lv_at hl 0 rfl) ?_
      refine lv_iconst (v := 0) hx hb dX10_reset_173 (by decide) ?_
      refine eb_putI (T := TX10) X hw 0 35 (by decide) ⟨rfl, rfl, rfl⟩ (by decide) rfl (fun _ h => List.mem_cons_of_mem _ (inlX10 _ h)) (List.mem_cons_of_mem _ wi_9_21) tyX10 tyX10_ok nmX10 rfl rfl rfl dX10_reset_174 (fun H locs hw => ?_)
      subst hm
      exact eb_vret X hw rfl rfl dX10_reset_177
    · have hm := (if_neg h9).symm.trans hm
      refine lv_aload_n hx hb dX10_reset_152 rfl (lv_at hl 0 rfl) ?_
      refine eb_get (T := TX10) X hw 0 20 (by decide) ⟨rfl, rfl, rfl⟩ (by decide) (fun _ h => List.mem_cons_of_mem _ (inlX10 _ h)) (List.mem_cons_of_mem _ wi_5_14) (v := .ref (ad 4)) rfl dX10_reset_153 ?_
      refine lv_iload_n hx hb dX10_reset_156 rfl (lv_at hl 1 rfl) ?_
      refine lv_iconst (v := 0) hx hb dX10_reset_157 (by decide) ?_
      refine eb_iast (n := 16) X hw 4 (by decide) rfl rfl (eb_inU (by decide) i0_ (eb_nle h9)) dX10_reset_158 (fun H locs hw => ?_)
      refine lv_aload_n hx hb dX10_reset_159 rfl (lv_at hl 0 rfl) ?_
      refine eb_get (T := TX10) X hw 0 21 (by decide) ⟨rfl, rfl, rfl⟩ (by decide) (fun _ h => List.mem_cons_of_mem _ (inlX10 _ h)) (List.mem_cons_of_mem _ wi_5_15) (v := .ref (ad 5)) rfl dX10_reset_160 ?_
      refine lv_iload_n hx hb dX10_reset_163 rfl (lv_at hl 1 rfl) ?_
      refine lv_lconst (v := 0) hx hb dX10_reset_164 (by decide) ?_
      refine eb_last (n := 16) X hw 5 (by decide) rfl rfl (eb_inU (by decide) i0_ (eb_nle h9)) dX10_reset_165 (fun H locs hw => ?_)
      obtain ⟨x10, ex10⟩ : ∃ z : Int32, z = v3 + 1 := ⟨_, rfl⟩
      have hm : m_X10_reset_146  n (eb_pJ (eb_pI σ 4 v3.toNatClampNeg 0) 5 v3.toNatClampNeg 0) x10 = mm := by rw [ex10]; exact hm
      refine lv_iinc (v := x10) (lv' := [(3, .int x10), (0, .ref (ad 0))]) hx hb dX10_reset_166 hl (k := 1) rfl (by rw [ex10]; exact congrArg (v3 + ·) (by decide)) (by decide) rfl (fun ls hl => ?_)
      refine lv_goto (tgt := 146) hx hb dX10_reset_169 (by decide) ?_
      exact ih (eb_pJ (eb_pI σ 4 v3.toNatClampNeg 0) 5 v3.toNatClampNeg 0) x10 (show rJ (eb_pJ (eb_pI σ 4 v3.toNatClampNeg 0) 5 v3.toNatClampNeg 0) from rJ_ad hj_ (by decide)) (eb_up i0_ (eb_nle h9) ex10 hn).1 (eb_up i0_ (eb_nle h9) ex10 hn).2 hm hw (lv_sub hl [1, 0] rfl)
set_option maxHeartbeats 4000000 in
set_option maxRecDepth 100000 in
theorem k_X10_reset_36 {p : Program} {l : Launch} {e : Env} {s : State} {m : MethodId} {args : Array Value} {below : List Frame} {meth : Method} {c : Code} {A : Nat → Prop} {D : va_G} {cy : Nat → ClassId} {ad : Nat → Nat} (X : eb_X p s m args meth c cX10_reset 4 RX10 (Cond.code yX10_reset cX10_reset 4 none :: wsL_law) none D cy A)   : ∀ (n : Nat) (σ : eb_St) (v1 : Int64) (v3 : Int32) (hj_ : rJ σ) (i0_ : 0 ≤ v3.toInt) (hn : ((224 : Int32).toInt - v3.toInt).toNat < n) {H : Heap} {locs : List Loc} {ls : Array Slot} {mm : eb_St} (_ : (m_X10_reset_36  n σ v1 v3) = mm) (hw : eb_H D 18 cy rL ad A s.heap σ H locs) (hl : lv_has ls 4 [(0, .ref (ad 0)), (1, .long v1), (3, .int v3)]), W p l e ({ frames := 1, cells := 0, slots := 0, locals := 22 } : Room) s m args below meth c H locs 0 0 (MQ below (eb_Q D 18 cy rL ad A (none) mm) args s 0 0 A) (F0 m 36 ls []) := by
  have hx := X.1.1
  have hb := X.1.2.1
  have hown := X.1.2.2.2.1
  have hts := X.1.2.2.2.2
  intro n
  induction n with
  | zero => intro σ v1 v3 hj_ i0_ hn; exact absurd hn (Nat.not_lt_zero _)
  | succ n ih =>
    intro σ v1 v3 hj_ i0_ hn H locs ls mm hm hw hl
    have hm : (if (224 : Int32) ≤ v3 then m_X10_reset_146  17 (eb_pJ (eb_pJ (eb_pJ (eb_pJ (eb_pJ (eb_pI (eb_pI (eb_pI (eb_pI (eb_pI (eb_pI (eb_pI (eb_pJ (eb_pI (eb_pI (eb_pI (eb_pJ σ 3 ((6 : Int32).toNatClampNeg) v1) 0 4 1) 0 5 0) 0 6 (-1)) 0 7 0) 0 8 (-1)) 0 9 0) 0 10 0) 0 11 0) 0 12 0) 0 13 0) 0 14 0) 0 15 0) 0 16 0) 0 17 0) 0 18 0) 0 19 0) 0 else (fun (x8 : Int32) => m_X10_reset_36  n (eb_pJ σ 2 v3.toNatClampNeg 0) v1 x8) (v3 + 1)) = mm := hm
    refine lv_iload_n hx hb dX10_reset_36 rfl (lv_at hl 2 rfl) ?_
    refine lv_sipush (v := 224) hx hb dX10_reset_37 (by decide) ?_
    refine lv_icmp_ge (tgt := 56) hx hb dX10_reset_40 (by decide) (fun h7 => ?_) (fun h7 => ?_)
    · have hm := (if_pos h7).symm.trans hm
      refine lv_aload_n hx hb dX10_reset_56 rfl (lv_at hl 0 rfl) ?_
      refine eb_get (T := TX10) X hw 0 3 (by decide) ⟨rfl, rfl, rfl⟩ (by decide) (fun _ h => List.mem_cons_of_mem _ (inlX10 _ h)) (List.mem_cons_of_mem _ wi_5_10) (v := .ref (ad 3)) rfl dX10_reset_57 ?_
      refine lv_bipush (v := 6) hx hb dX10_reset_60 (by decide) ?_
      refine lv_lload_n hx hb dX10_reset_62 rfl (lv_at hl 1 rfl) ?_
      refine eb_last (n := 7) X hw 3 (by decide) rfl rfl (vp_in_iff.mpr ⟨by decide, by decide⟩) dX10_reset_63 (fun H locs hw => ?_)
      refine lv_aload_n hx hb dX10_reset_64 rfl (lv_at hl 0 rfl) ?_
      refine lv_iconst (v := 1) hx hb dX10_reset_65 (by decide) ?_
      refine eb_putI (T := TX10) X hw 0 4 (by decide) ⟨rfl, rfl, rfl⟩ (by decide) rfl (fun _ h => List.mem_cons_of_mem _ (inlX10 _ h)) (List.mem_cons_of_mem _ wi_5_11) tyX10 tyX10_ok nmX10 rfl rfl rfl dX10_reset_66 (fun H locs hw => ?_)
      refine lv_aload_n hx hb dX10_reset_69 rfl (lv_at hl 0 rfl) ?_
      refine lv_iconst (v := 0) hx hb dX10_reset_70 (by decide) ?_
      refine eb_putI (T := TX10) X hw 0 5 (by decide) ⟨rfl, rfl, rfl⟩ (by decide) rfl (fun _ h => List.mem_cons_of_mem _ (inlX10 _ h)) (List.mem_cons_of_mem _ wi_9_8) tyX10 tyX10_ok nmX10 rfl rfl rfl dX10_reset_71 (fun H locs hw => ?_)
      refine lv_aload_n hx hb dX10_reset_74 rfl (lv_at hl 0 rfl) ?_
      refine lv_iconst (v := (-1)) hx hb dX10_reset_75 (by decide) ?_
      refine eb_putI (T := TX10) X hw 0 6 (by decide) ⟨rfl, rfl, rfl⟩ (by decide) rfl (fun _ h => List.mem_cons_of_mem _ (inlX10 _ h)) (List.mem_cons_of_mem _ wi_5_12) tyX10 tyX10_ok nmX10 rfl rfl rfl dX10_reset_76 (fun H locs hw => ?_)
      refine lv_aload_n hx hb dX10_reset_79 rfl (lv_at hl 0 rfl) ?_
      refine lv_lconst (v := 0) hx hb dX10_reset_80 (by decide) ?_
      refine eb_putJ (T := TX10) X hw 0 7 (by decide) ⟨rfl, rfl, rfl⟩ (by decide) rfl (fun _ h => List.mem_cons_of_mem _ (inlX10 _ h)) (List.mem_cons_of_mem _ wi_9_9) tyX10 tyX10_ok nmX10 rfl rfl rfl dX10_reset_81 (fun H locs hw => ?_)
      refine lv_aload_n hx hb dX10_reset_84 rfl (lv_at hl 0 rfl) ?_
      refine lv_iconst (v := (-1)) hx hb dX10_reset_85 (by decide) ?_
      refine eb_putI (T := TX10) X hw 0 8 (by decide) ⟨rfl, rfl, rfl⟩ (by decide) rfl (fun _ h => List.mem_cons_of_mem _ (inlX10 _ h)) (List.mem_cons_of_mem _ wi_5_13) tyX10 tyX10_ok nmX10 rfl rfl rfl dX10_reset_86 (fun H locs hw => ?_)
      refine lv_aload_n hx hb dX10_reset_89 rfl (lv_at hl 0 rfl) ?_
      refine lv_iconst (v := 0) hx hb dX10_reset_90 (by decide) ?_
      refine eb_putI (T := TX10) X hw 0 9 (by decide) ⟨rfl, rfl, rfl⟩ (by decide) rfl (fun _ h => List.mem_cons_of_mem _ (inlX10 _ h)) (List.mem_cons_of_mem _ wi_9_10) tyX10 tyX10_ok nmX10 rfl rfl rfl dX10_reset_91 (fun H locs hw => ?_)
      refine lv_aload_n hx hb dX10_reset_94 rfl (lv_at hl 0 rfl) ?_
      refine lv_iconst (v := 0) hx hb dX10_reset_95 (by decide) ?_
      refine eb_putI (T := TX10) X hw 0 10 (by decide) ⟨rfl, rfl, rfl⟩ (by decide) rfl (fun _ h => List.mem_cons_of_mem _ (inlX10 _ h)) (List.mem_cons_of_mem _ wi_9_11) tyX10 tyX10_ok nmX10 rfl rfl rfl dX10_reset_96 (fun H locs hw => ?_)
      refine lv_aload_n hx hb dX10_reset_99 rfl (lv_at hl 0 rfl) ?_
      refine lv_iconst (v := 0) hx hb dX10_reset_100 (by decide) ?_
      refine eb_putI (T := TX10) X hw 0 11 (by decide) ⟨rfl, rfl, rfl⟩ (by decide) rfl (fun _ h => List.mem_cons_of_mem _ (inlX10 _ h)) (List.mem_cons_of_mem _ wi_9_12) tyX10 tyX10_ok nmX10 rfl rfl rfl dX10_reset_101 (fun H locs hw => ?_)
      refine lv_aload_n hx hb dX10_reset_104 rfl (lv_at hl 0 rfl) ?_
      refine lv_iconst (v := 0) hx hb dX10_reset_105 (by decide) ?_
      refine eb_putI (T := TX10) X hw 0 12 (by decide) ⟨rfl, rfl, rfl⟩ (by decide) rfl (fun _ h => List.mem_cons_of_mem _ (inlX10 _ h)) (List.mem_cons_of_mem _ wi_9_13) tyX10 tyX10_ok nmX10 rfl rfl rfl dX10_reset_106 (fun H locs hw => ?_)
      refine lv_aload_n hx hb dX10_reset_109 rfl (lv_at hl 0 rfl) ?_
      refine lv_iconst (v := 0) hx hb dX10_reset_110 (by decide) ?_
      refine eb_putI (T := TX10) X hw 0 13 (by decide) ⟨rfl, rfl, rfl⟩ (by decide) rfl (fun _ h => List.mem_cons_of_mem _ (inlX10 _ h)) (List.mem_cons_of_mem _ wi_9_14) tyX10 tyX10_ok nmX10 rfl rfl rfl dX10_reset_111 (fun H locs hw => ?_)
      refine lv_aload_n hx hb dX10_reset_114 rfl (lv_at hl 0 rfl) ?_
      refine lv_iconst (v := 0) hx hb dX10_reset_115 (by decide) ?_
      refine eb_putI (T := TX10) X hw 0 14 (by decide) ⟨rfl, rfl, rfl⟩ (by decide) rfl (fun _ h => List.mem_cons_of_mem _ (inlX10 _ h)) (List.mem_cons_of_mem _ wi_9_15) tyX10 tyX10_ok nmX10 rfl rfl rfl dX10_reset_116 (fun H locs hw => ?_)
      refine lv_aload_n hx hb dX10_reset_119 rfl (lv_at hl 0 rfl) ?_
      refine lv_lconst (v := 0) hx hb dX10_reset_120 (by decide) ?_
      refine eb_putJ (T := TX10) X hw 0 15 (by decide) ⟨rfl, rfl, rfl⟩ (by decide) rfl (fun _ h => List.mem_cons_of_mem _ (inlX10 _ h)) (List.mem_cons_of_mem _ wi_9_16) tyX10 tyX10_ok nmX10 rfl rfl rfl dX10_reset_121 (fun H locs hw => ?_)
      refine lv_aload_n hx hb dX10_reset_124 rfl (lv_at hl 0 rfl) ?_
      refine lv_lconst (v := 0) hx hb dX10_reset_125 (by decide) ?_
      refine eb_putJ (T := TX10) X hw 0 16 (by decide) ⟨rfl, rfl, rfl⟩ (by decide) rfl (fun _ h => List.mem_cons_of_mem _ (inlX10 _ h)) (List.mem_cons_of_mem _ wi_9_17) tyX10 tyX10_ok nmX10 rfl rfl rfl dX10_reset_126 (fun H locs hw => ?_)
      refine lv_aload_n hx hb dX10_reset_129 rfl (lv_at hl 0 rfl) ?_
      refine lv_lconst (v := 0) hx hb dX10_reset_130 (by decide) ?_
      refine eb_putJ (T := TX10) X hw 0 17 (by decide) ⟨rfl, rfl, rfl⟩ (by decide) rfl (fun _ h => List.mem_cons_of_mem _ (inlX10 _ h)) (List.mem_cons_of_mem _ wi_9_18) tyX10 tyX10_ok nmX10 rfl rfl rfl dX10_reset_131 (fun H locs hw => ?_)
      refine lv_aload_n hx hb dX10_reset_134 rfl (lv_at hl 0 rfl) ?_
      refine lv_lconst (v := 0) hx hb dX10_reset_135 (by decide) ?_
      refine eb_putJ (T := TX10) X hw 0 18 (by decide) ⟨rfl, rfl, rfl⟩ (by decide) rfl (fun _ h => List.mem_cons_of_mem _ (inlX10 _ h)) (List.mem_cons_of_mem _ wi_9_19) tyX10 tyX10_ok nmX10 rfl rfl rfl dX10_reset_136 (fun H locs hw => ?_)
      refine lv_aload_n hx hb dX10_reset_139 rfl (lv_at hl 0 rfl) ?_
      refine lv_lconst (v := 0) hx hb dX10_reset_140 (by decide) ?_
      refine eb_putJ (T := TX10) X hw 0 19 (by decide) ⟨rfl, rfl, rfl⟩ (by decide) rfl (fun _ h => List.mem_cons_of_mem _ (inlX10 _ h)) (List.mem_cons_of_mem _ wi_9_20) tyX10 tyX10_ok nmX10 rfl rfl rfl dX10_reset_141 (fun H locs hw => ?_)
      refine lv_iconst (v := 0) hx hb dX10_reset_144 (by decide) ?_
      refine lv_istore_n (lv' := [(3, .int 0), (0, .ref (ad 0)), (1, .long v1)]) hx hb dX10_reset_145 rfl hl (by decide) rfl (fun ls hl => ?_)
      exact k_X10_reset_146 X   17 (eb_pJ (eb_pJ (eb_pJ (eb_pJ (eb_pJ (eb_pI (eb_pI (eb_pI (eb_pI (eb_pI (eb_pI (eb_pI (eb_pJ (eb_pI (eb_pI (eb_pI (eb_pJ σ 3 ((6 : Int32).toNatClampNeg) v1) 0 4 1) 0 5 0) 0 6 (-1)) 0 7 0) 0 8 (-1)) 0 9 0) 0 10 0) 0 11 0) 0 12 0) 0 13 0) 0 14 0) 0 15 0) 0 16 0) 0 17 0) 0 18 0) 0 19 0) 0 (show rJ (eb_pI (eb_pJ (eb_pI (eb_pI (eb_pI (eb_pJ σ 3 ((6 : Int32).toNatClampNeg) v1) 0 4 1) 0 5 0) 0 6 (-1)) 0 7 0) 0 8 (-1)) from (rJ_m1 (show rJ (eb_pI (eb_pJ σ 3 ((6 : Int32).toNatClampNeg) v1) 0 4 1) from (rJ_mach hj_ (Or.inr rfl))))) (by decide) (by decide) hm hw (lv_sub hl [1, 0] rfl)
    · have hm := (if_neg h7).symm.trans hm
      refine lv_aload_n hx hb dX10_reset_43 rfl (lv_at hl 0 rfl) ?_
      refine eb_get (T := TX10) X hw 0 2 (by decide) ⟨rfl, rfl, rfl⟩ (by decide) (fun _ h => List.mem_cons_of_mem _ (inlX10 _ h)) (List.mem_cons_of_mem _ wi_5_9) (v := .ref (ad 2)) rfl dX10_reset_44 ?_
      refine lv_iload_n hx hb dX10_reset_47 rfl (lv_at hl 2 rfl) ?_
      refine lv_lconst (v := 0) hx hb dX10_reset_48 (by decide) ?_
      refine eb_last (n := 224) X hw 2 (by decide) rfl rfl (eb_inU (by decide) i0_ (eb_nle h7)) dX10_reset_49 (fun H locs hw => ?_)
      obtain ⟨x8, ex8⟩ : ∃ z : Int32, z = v3 + 1 := ⟨_, rfl⟩
      have hm : m_X10_reset_36  n (eb_pJ σ 2 v3.toNatClampNeg 0) v1 x8 = mm := by rw [ex8]; exact hm
      refine lv_iinc (v := x8) (lv' := [(3, .int x8), (0, .ref (ad 0)), (1, .long v1)]) hx hb dX10_reset_50 hl (k := 2) rfl (by rw [ex8]; exact congrArg (v3 + ·) (by decide)) (by decide) rfl (fun ls hl => ?_)
      refine lv_goto (tgt := 36) hx hb dX10_reset_53 (by decide) ?_
      exact ih (eb_pJ σ 2 v3.toNatClampNeg 0) v1 x8 hj_ (eb_up i0_ (eb_nle h7) ex8 hn).1 (eb_up i0_ (eb_nle h7) ex8 hn).2 hm hw (lv_sub hl [1, 2, 0] rfl)
set_option maxHeartbeats 4000000 in
set_option maxRecDepth 100000 in
theorem k_X10_reset_2 {p : Program} {l : Launch} {e : Env} {s : State} {m : MethodId} {args : Array Value} {below : List Frame} {meth : Method} {c : Code} {A : Nat → Prop} {D : va_G} {cy : Nat → ClassId} {ad : Nat → Nat} (X : eb_X p s m args meth c cX10_reset 4 RX10 (Cond.code yX10_reset cX10_reset 4 none :: wsL_law) none D cy A)   : ∀ (n : Nat) (σ : eb_St) (v1 : Int64) (v3 : Int32) (hj_ : rJ σ) (i0_ : 0 ≤ v3.toInt) (hn : ((6 : Int32).toInt - v3.toInt).toNat < n) {H : Heap} {locs : List Loc} {ls : Array Slot} {mm : eb_St} (_ : (m_X10_reset_2  n σ v1 v3) = mm) (hw : eb_H D 18 cy rL ad A s.heap σ H locs) (hl : lv_has ls 4 [(0, .ref (ad 0)), (1, .long v1), (3, .int v3)]), W p l e ({ frames := 1, cells := 0, slots := 0, locals := 22 } : Room) s m args below meth c H locs 0 0 (MQ below (eb_Q D 18 cy rL ad A (none) mm) args s 0 0 A) (F0 m 2 ls []) := by
  have hx := X.1.1
  have hb := X.1.2.1
  have hown := X.1.2.2.2.1
  have hts := X.1.2.2.2.2
  intro n
  induction n with
  | zero => intro σ v1 v3 hj_ i0_ hn; exact absurd hn (Nat.not_lt_zero _)
  | succ n ih =>
    intro σ v1 v3 hj_ i0_ hn H locs ls mm hm hw hl
    have hm : (if (6 : Int32) ≤ v3 then m_X10_reset_36  225 σ v1 0 else (fun (z2 : Bool) => (if (eb_b z2) = 0 then (fun (x4 : Int32) => m_X10_reset_2  n (eb_pI σ 6 v3.toNatClampNeg 0) v1 x4) (v3 + 1) else (fun (z5 : eb_St) => (fun (x6 : Int32) => m_X10_reset_2  n (eb_pI z5 6 v3.toNatClampNeg 0) v1 x6) (v3 + 1)) (m_X10_clearMemory σ v3))) (m_X10_isLive σ v3)) = mm := hm
    refine lv_iload_n hx hb dX10_reset_2 rfl (lv_at hl 2 rfl) ?_
    refine lv_bipush (v := 6) hx hb dX10_reset_3 (by decide) ?_
    refine lv_icmp_ge (tgt := 34) hx hb dX10_reset_5 (by decide) (fun h1 => ?_) (fun h1 => ?_)
    · have hm := (if_pos h1).symm.trans hm
      refine lv_iconst (v := 0) hx hb dX10_reset_34 (by decide) ?_
      refine lv_istore_n (lv' := [(3, .int 0), (0, .ref (ad 0)), (1, .long v1)]) hx hb dX10_reset_35 rfl hl (by decide) rfl (fun ls hl => ?_)
      exact k_X10_reset_36 X   225 σ v1 0 hj_ (by decide) (by decide) hm hw (lv_sub hl [1, 2, 0] rfl)
    · have hm := (if_neg h1).symm.trans hm
      refine lv_aload_n hx hb dX10_reset_8 rfl (lv_at hl 0 rfl) ?_
      refine lv_iload_n hx hb dX10_reset_9 rfl (lv_at hl 2 rfl) ?_
      obtain ⟨z2, qz2⟩ : ∃ t : Bool, t = m_X10_isLive σ v3 := ⟨_, rfl⟩
      have hm : (if (eb_b z2) = 0 then (fun (x4 : Int32) => m_X10_reset_2  n (eb_pI σ 6 v3.toNatClampNeg 0) v1 x4) (v3 + 1) else (fun (z5 : eb_St) => (fun (x6 : Int32) => m_X10_reset_2  n (eb_pI z5 6 v3.toNatClampNeg 0) v1 x6) (v3 + 1)) (m_X10_clearMemory σ v3)) = mm := by rw [qz2]; exact hm
      have hc : eb_M l yX10_isLive (Cond.code yX10_isLive cX10_isLive 2 (some .boolean) :: wsL_law) 0 0 D 18 cy rL ad σ [.ref (ad 0), .int v3] (some (.int (eb_b z2))) σ := by rw [qz2]; exact c_X10_isLive l D cy ad σ v3 (eb_inU (by decide) i0_ (eb_nle h1))
      refine eb_callV (n := 1) (as := [.int v3]) (rest := []) X hw hl.1 0 hc (by decide) ⟨rfl, rfl, rfl⟩ (eb_goodV wi_9_22 wi_9_23 wi_10_0 wi_1_5 wi_10_1) rfl (by decide +kernel) ⟨by decide, by decide⟩ rfl rfl (Nat.le_of_ble_eq_true rfl) dX10_reset_10 ⟨by decide, by decide⟩ (st' := [.int (eb_b z2)]) rfl (fun H locs hw => ?_)
      refine lv_if_eq (tgt := 21) hx hb dX10_reset_13 (by decide) (fun h3 => ?_) (fun h3 => ?_)
      · have hm := (if_pos h3).symm.trans hm
        refine lv_aload_n hx hb dX10_reset_21 rfl (lv_at hl 0 rfl) ?_
        refine eb_get (T := TX10) X hw 0 22 (by decide) ⟨rfl, rfl, rfl⟩ (by decide) (fun _ h => List.mem_cons_of_mem _ (inlX10 _ h)) (List.mem_cons_of_mem _ wi_5_16) (v := .ref (ad 6)) rfl dX10_reset_22 ?_
        refine lv_iload_n hx hb dX10_reset_25 rfl (lv_at hl 2 rfl) ?_
        refine lv_iconst (v := 0) hx hb dX10_reset_26 (by decide) ?_
        refine eb_iast (n := 6) X hw 6 (by decide) rfl rfl (eb_inU (by decide) i0_ (eb_nle h1)) dX10_reset_27 (fun H locs hw => ?_)
        obtain ⟨x4, ex4⟩ : ∃ z : Int32, z = v3 + 1 := ⟨_, rfl⟩
        have hm : m_X10_reset_2  n (eb_pI σ 6 v3.toNatClampNeg 0) v1 x4 = mm := by rw [ex4]; exact hm
        refine lv_iinc (v := x4) (lv' := [(3, .int x4), (0, .ref (ad 0)), (1, .long v1)]) hx hb dX10_reset_28 hl (k := 2) rfl (by rw [ex4]; exact congrArg (v3 + ·) (by decide)) (by decide) rfl (fun ls hl => ?_)
        refine lv_goto (tgt := 2) hx hb dX10_reset_31 (by decide) ?_
        exact ih (eb_pI σ 6 v3.toNatClampNeg 0) v1 x4 (show rJ (eb_pI σ 6 v3.toNatClampNeg 0) from rJ_w hj_ (Or.inl rfl)) (eb_up i0_ (eb_nle h1) ex4 hn).1 (eb_up i0_ (eb_nle h1) ex4 hn).2 hm hw (lv_sub hl [1, 2, 0] rfl)
      · have hm := (if_neg h3).symm.trans hm
        refine lv_aload_n hx hb dX10_reset_16 rfl (lv_at hl 0 rfl) ?_
        refine lv_iload_n hx hb dX10_reset_17 rfl (lv_at hl 2 rfl) ?_
        obtain ⟨z5, qz5⟩ : ∃ t : eb_St, t = m_X10_clearMemory σ v3 := ⟨_, rfl⟩
        have hm : (fun (x6 : Int32) => m_X10_reset_2  n (eb_pI z5 6 v3.toNatClampNeg 0) v1 x6) (v3 + 1) = mm := by rw [qz5]; exact hm
        have jz5 : rJ z5 := J_X10_clearMemory qz5.symm hj_ (eb_inU (by decide) i0_ (eb_nle h1))
        have hc : eb_M l yX10_clearMemory (Cond.code yX10_clearMemory cX10_clearMemory 3 none :: wsL_law) 0 0 D 18 cy rL ad σ [.ref (ad 0), .int v3] (none) z5 := by rw [qz5]; exact c_X10_clearMemory l D cy ad σ v3 hj_ (eb_inU (by decide) i0_ (eb_nle h1))
        refine eb_callV (n := 1) (as := [.int v3]) (rest := []) X hw hl.1 0 hc (by decide) ⟨rfl, rfl, rfl⟩ (eb_goodV wi_10_2 wi_10_3 wi_10_4 wi_1_5 wi_10_5) rfl (by decide +kernel) ⟨by decide, by decide⟩ rfl rfl (Nat.le_of_ble_eq_true rfl) dX10_reset_18 ⟨by decide, by decide⟩ (st' := []) rfl (fun H locs hw => ?_)
        refine lv_aload_n hx hb dX10_reset_21 rfl (lv_at hl 0 rfl) ?_
        refine eb_get (T := TX10) X hw 0 22 (by decide) ⟨rfl, rfl, rfl⟩ (by decide) (fun _ h => List.mem_cons_of_mem _ (inlX10 _ h)) (List.mem_cons_of_mem _ wi_5_16) (v := .ref (ad 6)) rfl dX10_reset_22 ?_
        refine lv_iload_n hx hb dX10_reset_25 rfl (lv_at hl 2 rfl) ?_
        refine lv_iconst (v := 0) hx hb dX10_reset_26 (by decide) ?_
        refine eb_iast (n := 6) X hw 6 (by decide) rfl rfl (eb_inU (by decide) i0_ (eb_nle h1)) dX10_reset_27 (fun H locs hw => ?_)
        obtain ⟨x6, ex6⟩ : ∃ z : Int32, z = v3 + 1 := ⟨_, rfl⟩
        have hm : m_X10_reset_2  n (eb_pI z5 6 v3.toNatClampNeg 0) v1 x6 = mm := by rw [ex6]; exact hm
        refine lv_iinc (v := x6) (lv' := [(3, .int x6), (0, .ref (ad 0)), (1, .long v1)]) hx hb dX10_reset_28 hl (k := 2) rfl (by rw [ex6]; exact congrArg (v3 + ·) (by decide)) (by decide) rfl (fun ls hl => ?_)
        refine lv_goto (tgt := 2) hx hb dX10_reset_31 (by decide) ?_
        exact ih (eb_pI z5 6 v3.toNatClampNeg 0) v1 x6 (show rJ (eb_pI z5 6 v3.toNatClampNeg 0) from rJ_w jz5 (Or.inl rfl)) (eb_up i0_ (eb_nle h1) ex6 hn).1 (eb_up i0_ (eb_nle h1) ex6 hn).2 hm hw (lv_sub hl [1, 2, 0] rfl)
set_option maxHeartbeats 4000000 in
set_option maxRecDepth 100000 in
theorem c_X10_reset (l : Launch) (D : va_G) (cy : Nat → ClassId) (ad : Nat → Nat) (σ : eb_St) (a0 : Int64) (hj_ : rJ σ) : eb_M l yX10_reset (Cond.code yX10_reset cX10_reset 4 none :: wsL_law) 1 22 D 18 cy rL ad σ [.ref (ad 0), .long a0] (none) (m_X10_reset σ a0) := by
  refine eb_start (own := RX10) (by decide) rfl rfl (Nat.le_of_ble_eq_true rfl) ?_
  intro p e s m args below meth c A ls X hw hl
  have hl : lv_has ls 4 [(0, .ref (ad 0)), (1, .long a0)] := hl
  have hx := X.1.1
  have hb := X.1.2.1
  have hown := X.1.2.2.2.1
  have hts := X.1.2.2.2.2
  generalize hm : m_X10_reset σ a0 = mm
  have hm : m_X10_reset_2  7 σ a0 0 = mm := hm
  refine lv_iconst (v := 0) hx hb dX10_reset_0 (by decide) ?_
  refine lv_istore_n (lv' := [(3, .int 0), (0, .ref (ad 0)), (1, .long a0)]) hx hb dX10_reset_1 rfl hl (by decide) rfl (fun ls hl => ?_)
  exact k_X10_reset_2 X   7 σ a0 0 hj_ (by decide) (by decide) hm hw (lv_sub hl [1, 2, 0] rfl)
