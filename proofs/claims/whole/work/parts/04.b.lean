def m_X10_isOpen_25  : Nat → eb_St → Int32 → Bool → Int32 → Bool
  | 0, _, _, _, _ => false
  | n + 1, σ, v1, v2, v3 => (if (6 : Int32) ≤ v3 then v2 else (if (eb_b v2) = 0 then v2 else (fun (z6 : Bool) => (if (eb_b z6) = 0 then (fun (x8 : Int32) => m_X10_isOpen_25  n σ v1 true x8) (v3 + 1) else (if v1 < (σ.1 7 v3.toNatClampNeg) then (fun (x10 : Int32) => m_X10_isOpen_25  n σ v1 true x10) (v3 + 1) else (if v1 < ((σ.1 7 v3.toNatClampNeg) + (σ.1 8 v3.toNatClampNeg)) then (fun (x12 : Int32) => m_X10_isOpen_25  n σ v1 false x12) (v3 + 1) else (fun (x13 : Int32) => m_X10_isOpen_25  n σ v1 true x13) (v3 + 1))))) (m_X10_isLive σ v3)))
def m_X10_isOpen (σ : eb_St) (a0 : Int32) : Bool := (if a0 < 0 then m_X10_isOpen_25  7 σ a0 false 0 else (if (65536 : Int32) ≤ a0 then m_X10_isOpen_25  7 σ a0 false 0 else (if (a0 - a0 / 8 * 8) = 0 then m_X10_isOpen_25  7 σ a0 true 0 else m_X10_isOpen_25  7 σ a0 false 0)))
theorem l_X10_isOpen_25 : ∀ (n : Nat) (σ : eb_St) (a : Int32) (b : Bool) (i : Int32), m_X10_isOpen_25 n σ a b i = true → b = true := by
  intro n
  induction n with
  | zero => intro σ a b i h; exact absurd (show false = true from h) (by decide)
  | succ n ih =>
    intro σ a b i h
    cases b with
    | true => rfl
    | false =>
      unfold m_X10_isOpen_25 at h
      by_cases h1 : (6 : Int32) ≤ i
      · rw [if_pos h1] at h; exact h
      · rw [if_neg h1, if_pos (show eb_b false = 0 by decide)] at h; exact h
theorem l_X10_isOpen {σ : eb_St} {a : Int32} (h : m_X10_isOpen σ a = true) : 0 ≤ a.toInt ∧ a.toInt + (8 : Int32).toInt ≤ 65536 := by
  unfold m_X10_isOpen at h
  by_cases h1 : a < 0
  · rw [if_pos h1] at h; exact absurd (l_X10_isOpen_25 _ _ _ _ _ h) (by decide)
  · rw [if_neg h1] at h
    by_cases h2 : (65536 : Int32) ≤ a
    · rw [if_pos h2] at h; exact absurd (l_X10_isOpen_25 _ _ _ _ _ h) (by decide)
    · rw [if_neg h2] at h
      by_cases h3 : a - a / 8 * 8 = 0
      · exact eb_word8 h1 h2 h3
      · rw [if_neg h3] at h; exact absurd (l_X10_isOpen_25 _ _ _ _ _ h) (by decide)

def m_X10_poke (σ : eb_St) (a0 : Int32) (a1 : Int64) : Bool × eb_St := (fun (z1 : Bool) => (if (eb_b z1) = 0 then (false, σ) else (fun (z3 : eb_St) => (true, z3)) (m_X10_put σ a0 8 a1))) (m_X10_isOpen σ a0)

def m_X10_peek (σ : eb_St) (a0 : Int32) : Int64 := (fun (z1 : Bool) => (if (eb_b z1) = 0 then 0 else (fun (z3 : Int64) => z3) (m_X10_take σ a0 8))) (m_X10_isOpen σ a0)

def m_X10_enclave (σ : eb_St) (a0 : Int32) (a1 : Int32) : Int32 := (if a0 < 0 then 0 else (if (5 : Int32) < a0 then 0 else (fun (z3 : Bool) => (if (eb_b z3) = 0 then 0 else (if a1 = 0 then σ.1 6 a0.toNatClampNeg else if a1 = 1 then σ.1 7 a0.toNatClampNeg else if a1 = 2 then σ.1 8 a0.toNatClampNeg else if a1 = 3 then σ.1 9 a0.toNatClampNeg else if a1 = 4 then σ.1 10 a0.toNatClampNeg else if a1 = 5 then σ.1 11 a0.toNatClampNeg else if a1 = 6 then σ.1 12 a0.toNatClampNeg else if a1 = 7 then σ.1 13 a0.toNatClampNeg else 0))) (m_X10_isLive σ a0)))

def m_X10_immediate (σ : eb_St)  : Int32 × eb_St := (fun (z1 : Int64) => (fun (x2 : Int64) => (fun (x3 : Int32) => (fun (x4 : Int32) => (if (σ.1 0 41) = 0 then (fun (z6 : Int32 × eb_St) => (z6.1, z6.2)) (m_X10_sets σ (z1 + x2)) else if (σ.1 0 41) = 1 then (if x4 = 0 then (fun (z9 : Int32 × eb_St) => (z9.1, z9.2)) (m_X10_sets σ (eb_lshl z1 x3)) else (fun (z10 : Int32 × eb_St) => (z10.1, z10.2)) (m_X10_illegal σ)) else if (σ.1 0 41) = 2 then (if x2 ≤ z1 then (fun (z13 : Int32 × eb_St) => (z13.1, z13.2)) (m_X10_sets σ 0) else (fun (z14 : Int32 × eb_St) => (z14.1, z14.2)) (m_X10_sets σ 1)) else if (σ.1 0 41) = 3 then (fun (z16 : Bool) => (if (eb_b z16) = 0 then (fun (z18 : Int32 × eb_St) => (z18.1, z18.2)) (m_X10_sets σ 0) else (fun (z19 : Int32 × eb_St) => (z19.1, z19.2)) (m_X10_sets σ 1))) (m_X10_isBelow z1 x2) else if (σ.1 0 41) = 4 then (fun (z21 : Int32 × eb_St) => (z21.1, z21.2)) (m_X10_sets σ (z1 ^^^ x2)) else if (σ.1 0 41) = 5 then (if x4 = 0 then (fun (z27 : Int32 × eb_St) => (z27.1, z27.2)) (m_X10_sets σ (eb_lushr z1 x3)) else (if x4 = 16 then (fun (z26 : Int32 × eb_St) => (z26.1, z26.2)) (m_X10_sets σ (eb_lshr z1 x3)) else (fun (z25 : Int32 × eb_St) => (z25.1, z25.2)) (m_X10_illegal σ))) else if (σ.1 0 41) = 6 then (fun (z29 : Int32 × eb_St) => (z29.1, z29.2)) (m_X10_sets σ (z1 ||| x2)) else (fun (z30 : Int32 × eb_St) => (z30.1, z30.2)) (m_X10_sets σ (z1 &&& x2)))) (eb_iushr (σ.1 0 37) 26)) (((σ.1 0 37) >>> (20 &&& 31)) &&& 63)) (((σ.1 0 37) >>> (20 &&& 31)).toInt64)) (m_X10_x σ (σ.1 0 39))

def m_X10_immediateW_86  (σ : eb_St) (v1 : Int32) : Int32 × eb_St := (if (σ.1 0 41) = 5 then (if (σ.1 0 42) = 32 then (fun (z15 : Int32 × eb_St) => (z15.1, z15.2)) (m_X10_sets σ ((v1 >>> ((σ.1 0 40) &&& 31)).toInt64)) else (fun (z14 : Int32 × eb_St) => (z14.1, z14.2)) (m_X10_illegal σ)) else (fun (z12 : Int32 × eb_St) => (z12.1, z12.2)) (m_X10_illegal σ))
def m_X10_immediateW_59  (σ : eb_St) (v1 : Int32) : Int32 × eb_St := (if (σ.1 0 41) = 5 then (if (σ.1 0 42) = 0 then (fun (z10 : Int32 × eb_St) => (z10.1, z10.2)) (m_X10_sets σ ((eb_iushr v1 (σ.1 0 40)).toInt64)) else m_X10_immediateW_86  σ v1) else m_X10_immediateW_86  σ v1)
def m_X10_immediateW (σ : eb_St)  : Int32 × eb_St := (fun (z1 : Int64) => (fun (x2 : Int32) => (if (σ.1 0 41) = 0 then (fun (z7 : Int32 × eb_St) => (z7.1, z7.2)) (m_X10_sets σ ((x2 + ((σ.1 0 37) >>> (20 &&& 31))).toInt64)) else (if (σ.1 0 41) = 1 then (if (σ.1 0 42) = 0 then (fun (z6 : Int32 × eb_St) => (z6.1, z6.2)) (m_X10_sets σ ((x2 <<< ((σ.1 0 40) &&& 31)).toInt64)) else m_X10_immediateW_59  σ x2) else m_X10_immediateW_59  σ x2))) (z1.toInt32)) (m_X10_x σ (σ.1 0 39))

def m_X10_registers (σ : eb_St)  : Int32 × eb_St := (fun (z1 : Int64) => (fun (z2 : Int64) => (if (σ.1 0 42) = 1 then (fun (z32 : Int64) => (fun (z33 : Int32 × eb_St) => (z33.1, z33.2)) (m_X10_sets σ z32)) (m_X10_product σ z1 z2) else (if (σ.1 0 42) = 32 then (if (σ.1 0 41) = 0 then (fun (z31 : Int32 × eb_St) => (z31.1, z31.2)) (m_X10_sets σ (z1 - z2)) else (if (σ.1 0 41) = 5 then (fun (z30 : Int32 × eb_St) => (z30.1, z30.2)) (m_X10_sets σ (eb_lshr z1 ((z2 &&& 63).toInt32))) else (fun (z29 : Int32 × eb_St) => (z29.1, z29.2)) (m_X10_illegal σ))) else (if (σ.1 0 42) = 0 then (if (σ.1 0 41) = 0 then (fun (z7 : Int32 × eb_St) => (z7.1, z7.2)) (m_X10_sets σ (z1 + z2)) else if (σ.1 0 41) = 1 then (fun (z9 : Int32 × eb_St) => (z9.1, z9.2)) (m_X10_sets σ (eb_lshl z1 ((z2 &&& 63).toInt32))) else if (σ.1 0 41) = 2 then (if z2 ≤ z1 then (fun (z12 : Int32 × eb_St) => (z12.1, z12.2)) (m_X10_sets σ 0) else (fun (z13 : Int32 × eb_St) => (z13.1, z13.2)) (m_X10_sets σ 1)) else if (σ.1 0 41) = 3 then (fun (z15 : Bool) => (if (eb_b z15) = 0 then (fun (z17 : Int32 × eb_St) => (z17.1, z17.2)) (m_X10_sets σ 0) else (fun (z18 : Int32 × eb_St) => (z18.1, z18.2)) (m_X10_sets σ 1))) (m_X10_isBelow z1 z2) else if (σ.1 0 41) = 4 then (fun (z20 : Int32 × eb_St) => (z20.1, z20.2)) (m_X10_sets σ (z1 ^^^ z2)) else if (σ.1 0 41) = 5 then (fun (z22 : Int32 × eb_St) => (z22.1, z22.2)) (m_X10_sets σ (eb_lushr z1 ((z2 &&& 63).toInt32))) else if (σ.1 0 41) = 6 then (fun (z24 : Int32 × eb_St) => (z24.1, z24.2)) (m_X10_sets σ (z1 ||| z2)) else (fun (z25 : Int32 × eb_St) => (z25.1, z25.2)) (m_X10_sets σ (z1 &&& z2))) else (fun (z26 : Int32 × eb_St) => (z26.1, z26.2)) (m_X10_illegal σ))))) (m_X10_x σ (σ.1 0 40))) (m_X10_x σ (σ.1 0 39))

def m_X10_registersW (σ : eb_St)  : Int32 × eb_St := (fun (z1 : Int64) => (fun (x2 : Int32) => (fun (z3 : Int64) => (fun (x4 : Int32) => (fun (x5 : Int64) => (fun (x6 : Int64) => (if (σ.1 0 42) = 1 then (if (σ.1 0 41) = 0 then (fun (z24 : Int32 × eb_St) => (z24.1, z24.2)) (m_X10_sets σ ((x2 * x4).toInt64)) else if (σ.1 0 41) = 1 then (fun (z26 : Int32 × eb_St) => (z26.1, z26.2)) (m_X10_illegal σ) else if (σ.1 0 41) = 2 then (fun (z28 : Int32 × eb_St) => (z28.1, z28.2)) (m_X10_illegal σ) else if (σ.1 0 41) = 3 then (fun (z30 : Int32 × eb_St) => (z30.1, z30.2)) (m_X10_illegal σ) else if (σ.1 0 41) = 4 then (if x4 = 0 then (fun (z36 : Int32 × eb_St) => (z36.1, z36.2)) (m_X10_sets σ (-1)) else (if x4 = (-1) then (fun (z35 : Int32 × eb_St) => (z35.1, z35.2)) (m_X10_sets σ ((-x2).toInt64)) else (fun (z34 : Int32 × eb_St) => (z34.1, z34.2)) (m_X10_sets σ ((x2 / x4).toInt64)))) else if (σ.1 0 41) = 5 then (if x4 = 0 then (fun (z40 : Int32 × eb_St) => (z40.1, z40.2)) (m_X10_sets σ (-1)) else (fun (z39 : Int32 × eb_St) => (z39.1, z39.2)) (m_X10_sets σ (((x5 / x6).toInt32).toInt64))) else if (σ.1 0 41) = 6 then (if x4 = 0 then (fun (z46 : Int32 × eb_St) => (z46.1, z46.2)) (m_X10_sets σ x2.toInt64) else (if x4 = (-1) then (fun (z45 : Int32 × eb_St) => (z45.1, z45.2)) (m_X10_sets σ 0) else (fun (z44 : Int32 × eb_St) => (z44.1, z44.2)) (m_X10_sets σ ((x2 - x2 / x4 * x4).toInt64)))) else if (σ.1 0 41) = 7 then (if x4 = 0 then (fun (z50 : Int32 × eb_St) => (z50.1, z50.2)) (m_X10_sets σ x2.toInt64) else (fun (z49 : Int32 × eb_St) => (z49.1, z49.2)) (m_X10_sets σ (((x5 - x5 / x6 * x6).toInt32).toInt64))) else (fun (z51 : Int32 × eb_St) => (z51.1, z51.2)) (m_X10_illegal σ)) else (if (σ.1 0 42) = 32 then (if (σ.1 0 41) = 0 then (fun (z22 : Int32 × eb_St) => (z22.1, z22.2)) (m_X10_sets σ ((x2 - x4).toInt64)) else (if (σ.1 0 41) = 5 then (fun (z21 : Int32 × eb_St) => (z21.1, z21.2)) (m_X10_sets σ ((x2 >>> ((x4 &&& 31) &&& 31)).toInt64)) else (fun (z20 : Int32 × eb_St) => (z20.1, z20.2)) (m_X10_illegal σ))) else (if (σ.1 0 42) = 0 then (if (σ.1 0 41) = 0 then (fun (z16 : Int32 × eb_St) => (z16.1, z16.2)) (m_X10_sets σ ((x2 + x4).toInt64)) else (if (σ.1 0 41) = 1 then (fun (z15 : Int32 × eb_St) => (z15.1, z15.2)) (m_X10_sets σ ((x2 <<< ((x4 &&& 31) &&& 31)).toInt64)) else (if (σ.1 0 41) = 5 then (fun (z14 : Int32 × eb_St) => (z14.1, z14.2)) (m_X10_sets σ ((eb_iushr x2 (x4 &&& 31)).toInt64)) else (fun (z13 : Int32 × eb_St) => (z13.1, z13.2)) (m_X10_illegal σ)))) else (fun (z17 : Int32 × eb_St) => (z17.1, z17.2)) (m_X10_illegal σ))))) (x4.toInt64 &&& 4294967295)) (x2.toInt64 &&& 4294967295)) (z3.toInt32)) (m_X10_x σ (σ.1 0 40))) (z1.toInt32)) (m_X10_x σ (σ.1 0 39))

def m_X10_branches_171  (σ : eb_St) (v1 : Int64) (v7 : Int32) : Int32 × eb_St := (if v7 = 0 then (fun (z27 : Int32 × eb_St) => (z27.1, z27.2)) (m_X10_goesOn σ) else (fun (x23 : Int64) => (if (x23 &&& (3 : Int64)) = 0 then (fun (z25 : Int32) => ((-1), eb_pJ σ 3 z25.toNatClampNeg x23)) (m_X10_set σ) else (fun (z26 : Int32 × eb_St) => (z26.1, z26.2)) (m_X10_fault σ 0 x23))) (v1 + (((((((σ.1 0 37) >>> (31 &&& 31)) <<< (12 &&& 31)) ||| (((σ.1 0 37) <<< (4 &&& 31)) &&& (2048 : Int32))) ||| (((σ.1 0 37) >>> (20 &&& 31)) &&& (2016 : Int32))) ||| (((σ.1 0 37) >>> (7 &&& 31)) &&& (30 : Int32))).toInt64)))
def m_X10_branches_80  (σ : eb_St) (v1 : Int64) (s0 : Int32) : Int32 × eb_St := m_X10_branches_171  σ v1 s0
def m_X10_branches_97  (σ : eb_St) (v1 : Int64) (s0 : Int32) : Int32 × eb_St := m_X10_branches_171  σ v1 s0
def m_X10_branches_114  (σ : eb_St) (v1 : Int64) (s0 : Int32) : Int32 × eb_St := m_X10_branches_171  σ v1 s0
def m_X10_branches_131  (σ : eb_St) (v1 : Int64) (s0 : Int32) : Int32 × eb_St := m_X10_branches_171  σ v1 s0
def m_X10_branches_161  (σ : eb_St) (v1 : Int64) (s0 : Int32) : Int32 × eb_St := m_X10_branches_171  σ v1 s0
def m_X10_branches (σ : eb_St) (a0 : Int64) : Int32 × eb_St := (fun (z1 : Int64) => (fun (z2 : Int64) => (if (σ.1 0 41) = 0 then (if z1 = z2 then m_X10_branches_80  σ a0 1 else m_X10_branches_80  σ a0 0) else if (σ.1 0 41) = 1 then (if z1 = z2 then m_X10_branches_97  σ a0 0 else m_X10_branches_97  σ a0 1) else if (σ.1 0 41) = 2 then (fun (z8 : Int32 × eb_St) => (z8.1, z8.2)) (m_X10_illegal σ) else if (σ.1 0 41) = 3 then (fun (z10 : Int32 × eb_St) => (z10.1, z10.2)) (m_X10_illegal σ) else if (σ.1 0 41) = 4 then (if z2 ≤ z1 then m_X10_branches_114  σ a0 0 else m_X10_branches_114  σ a0 1) else if (σ.1 0 41) = 5 then (if z1 < z2 then m_X10_branches_131  σ a0 0 else m_X10_branches_131  σ a0 1) else if (σ.1 0 41) = 6 then (fun (z16 : Bool) => (fun (x17 : Int32) => m_X10_branches_171  σ a0 x17) (eb_b z16)) (m_X10_isBelow z1 z2) else if (σ.1 0 41) = 7 then (fun (z19 : Bool) => (if (eb_b z19) = 0 then m_X10_branches_161  σ a0 1 else m_X10_branches_161  σ a0 0)) (m_X10_isBelow z1 z2) else (fun (z21 : Int32 × eb_St) => (z21.1, z21.2)) (m_X10_illegal σ))) (m_X10_x σ (σ.1 0 40))) (m_X10_x σ (σ.1 0 39))
set_option maxHeartbeats 4000000 in
set_option maxRecDepth 100000 in
theorem k_X10_isOpen_25 {p : Program} {l : Launch} {e : Env} {s : State} {m : MethodId} {args : Array Value} {below : List Frame} {meth : Method} {c : Code} {A : Nat → Prop} {D : va_G} {cy : Nat → ClassId} {ad : Nat → Nat} (X : eb_X p s m args meth c cX10_isOpen 4 RX10 (Cond.code yX10_isOpen cX10_isOpen 4 (some .boolean) :: wsL_law) (some .boolean) D cy A)   : ∀ (n : Nat) (σ : eb_St) (v1 : Int32) (v2 : Bool) (v3 : Int32)  (i0_ : 0 ≤ v3.toInt) (hn : ((6 : Int32).toInt - v3.toInt).toNat < n) {H : Heap} {locs : List Loc} {ls : Array Slot} {mm : Bool} (_ : (m_X10_isOpen_25  n σ v1 v2 v3) = mm) (hw : eb_H D 18 cy rL ad A s.heap σ H locs) (hl : lv_has ls 4 [(0, .ref (ad 0)), (1, .int v1), (2, .int (eb_b v2)), (3, .int v3)]), W p l e ({ frames := 1, cells := 0, slots := 0, locals := 21 } : Room) s m args below meth c H locs 0 0 (MQ below (eb_Q D 18 cy rL ad A (some (.int (eb_b mm))) σ) args s 0 0 A) (F0 m 25 ls []) := by
  have hx := X.1.1
  have hb := X.1.2.1
  have hown := X.1.2.2.2.1
  have hts := X.1.2.2.2.2
  intro n
  induction n with
  | zero => intro σ v1 v2 v3 i0_ hn; exact absurd hn (Nat.not_lt_zero _)
  | succ n ih =>
    intro σ v1 v2 v3 i0_ hn H locs ls mm hm hw hl
    have hm : (if (6 : Int32) ≤ v3 then v2 else (if (eb_b v2) = 0 then v2 else (fun (z6 : Bool) => (if (eb_b z6) = 0 then (fun (x8 : Int32) => m_X10_isOpen_25  n σ v1 true x8) (v3 + 1) else (if v1 < (σ.1 7 v3.toNatClampNeg) then (fun (x10 : Int32) => m_X10_isOpen_25  n σ v1 true x10) (v3 + 1) else (if v1 < ((σ.1 7 v3.toNatClampNeg) + (σ.1 8 v3.toNatClampNeg)) then (fun (x12 : Int32) => m_X10_isOpen_25  n σ v1 false x12) (v3 + 1) else (fun (x13 : Int32) => m_X10_isOpen_25  n σ v1 true x13) (v3 + 1))))) (m_X10_isLive σ v3))) = mm := hm
    refine lv_iload_n hx hb dX10_isOpen_25 rfl (lv_at hl 3 rfl) ?_
    refine lv_bipush (v := 6) hx hb dX10_isOpen_26 (by decide) ?_
    refine lv_icmp_ge (tgt := 82) hx hb dX10_isOpen_28 (by decide) (fun h4 => ?_) (fun h4 => ?_)
    · have hm := (if_pos h4).symm.trans hm
      refine lv_iload_n hx hb dX10_isOpen_82 rfl (lv_at hl 2 rfl) ?_
      subst hm
      exact eb_zret X hw rfl (eb_b_nar _) rfl rfl dX10_isOpen_83
    · have hm := (if_neg h4).symm.trans hm
      refine lv_iload_n hx hb dX10_isOpen_31 rfl (lv_at hl 2 rfl) ?_
      refine lv_if_eq (tgt := 82) hx hb dX10_isOpen_32 (by decide) (fun h5 => ?_) (fun h5 => ?_)
      · have hm := (if_pos h5).symm.trans hm
        refine lv_iload_n hx hb dX10_isOpen_82 rfl (lv_at hl 2 rfl) ?_
        subst hm
        exact eb_zret X hw rfl (eb_b_nar _) rfl rfl dX10_isOpen_83
      · have hm := (if_neg h5).symm.trans hm
        refine lv_aload_n hx hb dX10_isOpen_35 rfl (lv_at hl 0 rfl) ?_
        refine lv_iload_n hx hb dX10_isOpen_36 rfl (lv_at hl 3 rfl) ?_
        obtain ⟨z6, qz6⟩ : ∃ t : Bool, t = m_X10_isLive σ v3 := ⟨_, rfl⟩
        have hm : (if (eb_b z6) = 0 then (fun (x8 : Int32) => m_X10_isOpen_25  n σ v1 true x8) (v3 + 1) else (if v1 < (σ.1 7 v3.toNatClampNeg) then (fun (x10 : Int32) => m_X10_isOpen_25  n σ v1 true x10) (v3 + 1) else (if v1 < ((σ.1 7 v3.toNatClampNeg) + (σ.1 8 v3.toNatClampNeg)) then (fun (x12 : Int32) => m_X10_isOpen_25  n σ v1 false x12) (v3 + 1) else (fun (x13 : Int32) => m_X10_isOpen_25  n σ v1 true x13) (v3 + 1)))) = mm := by rw [qz6]; exact hm
        have hc : eb_M l yX10_isLive (Cond.code yX10_isLive cX10_isLive 2 (some .boolean) :: wsL_law) 0 0 D 18 cy rL ad σ [.ref (ad 0), .int v3] (some (.int (eb_b z6))) σ := by rw [qz6]; exact c_X10_isLive l D cy ad σ v3 (eb_inU (by decide) i0_ (eb_nle h4))
        refine eb_callV (n := 1) (as := [.int v3]) (rest := []) X hw hl.1 0 hc (by decide) ⟨rfl, rfl, rfl⟩ (eb_goodV wi_9_22 wi_9_23 wi_10_0 wi_1_5 wi_10_1) rfl (by decide +kernel) ⟨by decide, by decide⟩ rfl rfl (Nat.le_of_ble_eq_true rfl) dX10_isOpen_37 ⟨by decide, by decide⟩ (st' := [.int (eb_b z6)]) rfl (fun H locs hw => ?_)
        refine lv_if_eq (tgt := 70) hx hb dX10_isOpen_40 (by decide) (fun h7 => ?_) (fun h7 => ?_)
        · have hm := (if_pos h7).symm.trans hm
          refine lv_iconst (v := 1) hx hb dX10_isOpen_70 (by decide) ?_
          refine lv_goto (tgt := 75) hx hb dX10_isOpen_71 (by decide) ?_
          refine lv_istore_n (lv' := [(2, .int 1), (0, .ref (ad 0)), (1, .int v1), (3, .int v3)]) hx hb dX10_isOpen_75 rfl hl (by decide) rfl (fun ls hl => ?_)
          obtain ⟨x8, ex8⟩ : ∃ z : Int32, z = v3 + 1 := ⟨_, rfl⟩
          have hm : m_X10_isOpen_25  n σ v1 true x8 = mm := by rw [ex8]; exact hm
          refine lv_iinc (v := x8) (lv' := [(3, .int x8), (2, .int 1), (0, .ref (ad 0)), (1, .int v1)]) hx hb dX10_isOpen_76 hl (k := 3) rfl (by rw [ex8]; exact congrArg (v3 + ·) (by decide)) (by decide) rfl (fun ls hl => ?_)
          refine lv_goto (tgt := 25) hx hb dX10_isOpen_79 (by decide) ?_
          exact ih σ v1 true x8 (eb_up i0_ (eb_nle h4) ex8 hn).1 (eb_up i0_ (eb_nle h4) ex8 hn).2 hm hw (lv_sub hl [2, 3, 1, 0] rfl)
        · have hm := (if_neg h7).symm.trans hm
          refine lv_iload_n hx hb dX10_isOpen_43 rfl (lv_at hl 1 rfl) ?_
          refine lv_aload_n hx hb dX10_isOpen_44 rfl (lv_at hl 0 rfl) ?_
          refine eb_get (T := TX10) X hw 0 23 (by decide) ⟨rfl, rfl, rfl⟩ (by decide) (fun _ h => List.mem_cons_of_mem _ (inlX10 _ h)) (List.mem_cons_of_mem _ wi_5_17) (v := .ref (ad 7)) rfl dX10_isOpen_45 ?_
          refine lv_iload_n hx hb dX10_isOpen_48 rfl (lv_at hl 3 rfl) ?_
          refine eb_iald (n := 6) X hw 7 (by decide) rfl rfl (eb_inU (by decide) i0_ (eb_nle h4)) dX10_isOpen_49 ?_
          refine lv_icmp_lt (tgt := 70) hx hb dX10_isOpen_50 (by decide) (fun h9 => ?_) (fun h9 => ?_)
          · have hm := (if_pos h9).symm.trans hm
            refine lv_iconst (v := 1) hx hb dX10_isOpen_70 (by decide) ?_
            refine lv_goto (tgt := 75) hx hb dX10_isOpen_71 (by decide) ?_
            refine lv_istore_n (lv' := [(2, .int 1), (0, .ref (ad 0)), (1, .int v1), (3, .int v3)]) hx hb dX10_isOpen_75 rfl hl (by decide) rfl (fun ls hl => ?_)
            obtain ⟨x10, ex10⟩ : ∃ z : Int32, z = v3 + 1 := ⟨_, rfl⟩
            have hm : m_X10_isOpen_25  n σ v1 true x10 = mm := by rw [ex10]; exact hm
            refine lv_iinc (v := x10) (lv' := [(3, .int x10), (2, .int 1), (0, .ref (ad 0)), (1, .int v1)]) hx hb dX10_isOpen_76 hl (k := 3) rfl (by rw [ex10]; exact congrArg (v3 + ·) (by decide)) (by decide) rfl (fun ls hl => ?_)
            refine lv_goto (tgt := 25) hx hb dX10_isOpen_79 (by decide) ?_
            exact ih σ v1 true x10 (eb_up i0_ (eb_nle h4) ex10 hn).1 (eb_up i0_ (eb_nle h4) ex10 hn).2 hm hw (lv_sub hl [2, 3, 1, 0] rfl)
          · have hm := (if_neg h9).symm.trans hm
            refine lv_iload_n hx hb dX10_isOpen_53 rfl (lv_at hl 1 rfl) ?_
            refine lv_aload_n hx hb dX10_isOpen_54 rfl (lv_at hl 0 rfl) ?_
            refine eb_get (T := TX10) X hw 0 23 (by decide) ⟨rfl, rfl, rfl⟩ (by decide) (fun _ h => List.mem_cons_of_mem _ (inlX10 _ h)) (List.mem_cons_of_mem _ wi_5_17) (v := .ref (ad 7)) rfl dX10_isOpen_55 ?_
            refine lv_iload_n hx hb dX10_isOpen_58 rfl (lv_at hl 3 rfl) ?_
            refine eb_iald (n := 6) X hw 7 (by decide) rfl rfl (eb_inU (by decide) i0_ (eb_nle h4)) dX10_isOpen_59 ?_
            refine lv_aload_n hx hb dX10_isOpen_60 rfl (lv_at hl 0 rfl) ?_
            refine eb_get (T := TX10) X hw 0 24 (by decide) ⟨rfl, rfl, rfl⟩ (by decide) (fun _ h => List.mem_cons_of_mem _ (inlX10 _ h)) (List.mem_cons_of_mem _ wi_5_18) (v := .ref (ad 8)) rfl dX10_isOpen_61 ?_
            refine lv_iload_n hx hb dX10_isOpen_64 rfl (lv_at hl 3 rfl) ?_
            refine eb_iald (n := 6) X hw 8 (by decide) rfl rfl (eb_inU (by decide) i0_ (eb_nle h4)) dX10_isOpen_65 ?_
            refine lv_iadd hx hb dX10_isOpen_66 ?_
            refine lv_icmp_lt (tgt := 74) hx hb dX10_isOpen_67 (by decide) (fun h11 => ?_) (fun h11 => ?_)
            · have hm := (if_pos h11).symm.trans hm
              refine lv_iconst (v := 0) hx hb dX10_isOpen_74 (by decide) ?_
              refine lv_istore_n (lv' := [(2, .int 0), (0, .ref (ad 0)), (1, .int v1), (3, .int v3)]) hx hb dX10_isOpen_75 rfl hl (by decide) rfl (fun ls hl => ?_)
              obtain ⟨x12, ex12⟩ : ∃ z : Int32, z = v3 + 1 := ⟨_, rfl⟩
              have hm : m_X10_isOpen_25  n σ v1 false x12 = mm := by rw [ex12]; exact hm
              refine lv_iinc (v := x12) (lv' := [(3, .int x12), (2, .int 0), (0, .ref (ad 0)), (1, .int v1)]) hx hb dX10_isOpen_76 hl (k := 3) rfl (by rw [ex12]; exact congrArg (v3 + ·) (by decide)) (by decide) rfl (fun ls hl => ?_)
              refine lv_goto (tgt := 25) hx hb dX10_isOpen_79 (by decide) ?_
              exact ih σ v1 false x12 (eb_up i0_ (eb_nle h4) ex12 hn).1 (eb_up i0_ (eb_nle h4) ex12 hn).2 hm hw (lv_sub hl [2, 3, 1, 0] rfl)
            · have hm := (if_neg h11).symm.trans hm
              refine lv_iconst (v := 1) hx hb dX10_isOpen_70 (by decide) ?_
              refine lv_goto (tgt := 75) hx hb dX10_isOpen_71 (by decide) ?_
              refine lv_istore_n (lv' := [(2, .int 1), (0, .ref (ad 0)), (1, .int v1), (3, .int v3)]) hx hb dX10_isOpen_75 rfl hl (by decide) rfl (fun ls hl => ?_)
              obtain ⟨x13, ex13⟩ : ∃ z : Int32, z = v3 + 1 := ⟨_, rfl⟩
              have hm : m_X10_isOpen_25  n σ v1 true x13 = mm := by rw [ex13]; exact hm
              refine lv_iinc (v := x13) (lv' := [(3, .int x13), (2, .int 1), (0, .ref (ad 0)), (1, .int v1)]) hx hb dX10_isOpen_76 hl (k := 3) rfl (by rw [ex13]; exact congrArg (v3 + ·) (by decide)) (by decide) rfl (fun ls hl => ?_)
              refine lv_goto (tgt := 25) hx hb dX10_isOpen_79 (by decide) ?_
              exact ih σ v1 true x13 (eb_up i0_ (eb_nle h4) ex13 hn).1 (eb_up i0_ (eb_nle h4) ex13 hn).2 hm hw (lv_sub hl [2, 3, 1, 0] rfl)
set_option maxHeartbeats 4000000 in
set_option maxRecDepth 100000 in
theorem c_X10_isOpen (l : Launch) (D : va_G) (cy : Nat → ClassId) (ad : Nat → Nat) (σ : eb_St) (a0 : Int32)  : eb_M l yX10_isOpen (Cond.code yX10_isOpen cX10_isOpen 4 (some .boolean) :: wsL_law) 1 21 D 18 cy rL ad σ [.ref (ad 0), .int a0] (some (.int (eb_b (m_X10_isOpen σ a0)))) σ := by
  refine eb_start (own := RX10) (by decide) rfl rfl (Nat.le_of_ble_eq_true rfl) ?_
  intro p e s m args below meth c A ls X hw hl
  have hl : lv_has ls 4 [(0, .ref (ad 0)), (1, .int a0)] := hl
  have hx := X.1.1
  have hb := X.1.2.1
  have hown := X.1.2.2.2.1
  have hts := X.1.2.2.2.2
  generalize hm : m_X10_isOpen σ a0 = mm
  have hm : (if a0 < 0 then m_X10_isOpen_25  7 σ a0 false 0 else (if (65536 : Int32) ≤ a0 then m_X10_isOpen_25  7 σ a0 false 0 else (if (a0 - a0 / 8 * 8) = 0 then m_X10_isOpen_25  7 σ a0 true 0 else m_X10_isOpen_25  7 σ a0 false 0))) = mm := hm
  refine lv_iload_n hx hb dX10_isOpen_0 rfl (lv_at hl 1 rfl) ?_
  refine lv_if_lt (tgt := 21) hx hb dX10_isOpen_1 (by decide) (fun h1 => ?_) (fun h1 => ?_)
  · have hm := (if_pos h1).symm.trans hm
    refine lv_iconst (v := 0) hx hb dX10_isOpen_21 (by decide) ?_
    refine lv_istore_n (lv' := [(2, .int 0), (0, .ref (ad 0)), (1, .int a0)]) hx hb dX10_isOpen_22 rfl hl (by decide) rfl (fun ls hl => ?_)
    refine lv_iconst (v := 0) hx hb dX10_isOpen_23 (by decide) ?_
    refine lv_istore_n (lv' := [(3, .int 0), (2, .int 0), (0, .ref (ad 0)), (1, .int a0)]) hx hb dX10_isOpen_24 rfl hl (by decide) rfl (fun ls hl => ?_)
    exact k_X10_isOpen_25 X   7 σ a0 false 0 (by decide) (by decide) hm hw (lv_sub hl [2, 3, 1, 0] rfl)
  · have hm := (if_neg h1).symm.trans hm
    refine lv_iload_n hx hb dX10_isOpen_4 rfl (lv_at hl 1 rfl) ?_
    refine lv_ldc hx hb hown (hts _ (List.mem_cons_of_mem _ wi_5_6)) dX10_isOpen_5 ?_
    refine lv_icmp_ge (tgt := 21) hx hb dX10_isOpen_7 (by decide) (fun h2 => ?_) (fun h2 => ?_)
    · have hm := (if_pos h2).symm.trans hm
      refine lv_iconst (v := 0) hx hb dX10_isOpen_21 (by decide) ?_
      refine lv_istore_n (lv' := [(2, .int 0), (0, .ref (ad 0)), (1, .int a0)]) hx hb dX10_isOpen_22 rfl hl (by decide) rfl (fun ls hl => ?_)
      refine lv_iconst (v := 0) hx hb dX10_isOpen_23 (by decide) ?_
      refine lv_istore_n (lv' := [(3, .int 0), (2, .int 0), (0, .ref (ad 0)), (1, .int a0)]) hx hb dX10_isOpen_24 rfl hl (by decide) rfl (fun ls hl => ?_)
      exact k_X10_isOpen_25 X   7 σ a0 false 0 (by decide) (by decide) hm hw (lv_sub hl [2, 3, 1, 0] rfl)
    · have hm := (if_neg h2).symm.trans hm
      refine lv_iload_n hx hb dX10_isOpen_10 rfl (lv_at hl 1 rfl) ?_
      refine lv_bipush (v := 8) hx hb dX10_isOpen_11 (by decide) ?_
      refine lv_irem hx hb dX10_isOpen_13 (by decide) ?_
      refine lv_if_ne (tgt := 21) hx hb dX10_isOpen_14 (by decide) (fun h3 => ?_) (fun h3 => ?_)
      · have hm := (if_neg h3).symm.trans hm
        refine lv_iconst (v := 0) hx hb dX10_isOpen_21 (by decide) ?_
        refine lv_istore_n (lv' := [(2, .int 0), (0, .ref (ad 0)), (1, .int a0)]) hx hb dX10_isOpen_22 rfl hl (by decide) rfl (fun ls hl => ?_)
        refine lv_iconst (v := 0) hx hb dX10_isOpen_23 (by decide) ?_
        refine lv_istore_n (lv' := [(3, .int 0), (2, .int 0), (0, .ref (ad 0)), (1, .int a0)]) hx hb dX10_isOpen_24 rfl hl (by decide) rfl (fun ls hl => ?_)
        exact k_X10_isOpen_25 X   7 σ a0 false 0 (by decide) (by decide) hm hw (lv_sub hl [2, 3, 1, 0] rfl)
      · have hm := (if_pos h3).symm.trans hm
        refine lv_iconst (v := 1) hx hb dX10_isOpen_17 (by decide) ?_
        refine lv_goto (tgt := 22) hx hb dX10_isOpen_18 (by decide) ?_
        refine lv_istore_n (lv' := [(2, .int 1), (0, .ref (ad 0)), (1, .int a0)]) hx hb dX10_isOpen_22 rfl hl (by decide) rfl (fun ls hl => ?_)
        refine lv_iconst (v := 0) hx hb dX10_isOpen_23 (by decide) ?_
        refine lv_istore_n (lv' := [(3, .int 0), (2, .int 1), (0, .ref (ad 0)), (1, .int a0)]) hx hb dX10_isOpen_24 rfl hl (by decide) rfl (fun ls hl => ?_)
        exact k_X10_isOpen_25 X   7 σ a0 true 0 (by decide) (by decide) hm hw (lv_sub hl [2, 3, 1, 0] rfl)

theorem J_X10_poke {σ : eb_St} {a0 : Int32} {a1 : Int64} {mm : Bool × eb_St} (hm : m_X10_poke σ a0 a1 = mm) (hj_ : rJ σ) : rJ mm.2 := by
  have hm : (fun (z1 : Bool) => (if (eb_b z1) = 0 then (false, σ) else (fun (z3 : eb_St) => (true, z3)) (m_X10_put σ a0 8 a1))) (m_X10_isOpen σ a0) = mm := hm
  obtain ⟨z1, qz1⟩ : ∃ t : Bool, t = m_X10_isOpen σ a0 := ⟨_, rfl⟩
  have hm : (if (eb_b z1) = 0 then (false, σ) else (fun (z3 : eb_St) => (true, z3)) (m_X10_put σ a0 8 a1)) = mm := by rw [qz1]; exact hm
  refine eb_emn (c := (eb_b z1) = 0) (fun h2 => ?_) (fun h2 => ?_)
  · have hm := (if_neg h2).symm.trans hm
    obtain ⟨z3, qz3⟩ : ∃ t : eb_St, t = m_X10_put σ a0 8 a1 := ⟨_, rfl⟩
    have hm : (true, z3) = mm := by rw [qz3]; exact hm
    have jz3 : rJ z3 := J_X10_put qz3.symm hj_ (l_X10_isOpen (show m_X10_isOpen _ _ = true from by rw [← qz1]; exact (eb_b_n0 h2))).1 (l_X10_isOpen (show m_X10_isOpen _ _ = true from by rw [← qz1]; exact (eb_b_n0 h2))).2
    subst hm
    exact jz3
  · have hm := (if_pos h2).symm.trans hm
    subst hm
    exact hj_
set_option maxHeartbeats 4000000 in
set_option maxRecDepth 100000 in
theorem c_X10_poke (l : Launch) (D : va_G) (cy : Nat → ClassId) (ad : Nat → Nat) (σ : eb_St) (a0 : Int32) (a1 : Int64) (hj_ : rJ σ) : eb_M l yX10_poke (Cond.code yX10_poke cX10_poke 4 (some .boolean) :: wsL_law) 2 44 D 18 cy rL ad σ [.ref (ad 0), .int a0, .long a1] (some (.int (eb_b (m_X10_poke σ a0 a1).1))) ((m_X10_poke σ a0 a1).2) := by
  refine eb_start (own := RX10) (by decide) rfl rfl (Nat.le_of_ble_eq_true rfl) ?_
  intro p e s m args below meth c A ls X hw hl
  have hl : lv_has ls 4 [(0, .ref (ad 0)), (1, .int a0), (2, .long a1)] := hl
  have hx := X.1.1
  have hb := X.1.2.1
  have hown := X.1.2.2.2.1
  have hts := X.1.2.2.2.2
  generalize hm : m_X10_poke σ a0 a1 = mm
  have hm : (fun (z1 : Bool) => (if (eb_b z1) = 0 then (false, σ) else (fun (z3 : eb_St) => (true, z3)) (m_X10_put σ a0 8 a1))) (m_X10_isOpen σ a0) = mm := hm
  refine lv_aload_n hx hb dX10_poke_0 rfl (lv_at hl 0 rfl) ?_
  refine lv_iload_n hx hb dX10_poke_1 rfl (lv_at hl 1 rfl) ?_
  obtain ⟨z1, qz1⟩ : ∃ t : Bool, t = m_X10_isOpen σ a0 := ⟨_, rfl⟩
  have hm : (if (eb_b z1) = 0 then (false, σ) else (fun (z3 : eb_St) => (true, z3)) (m_X10_put σ a0 8 a1)) = mm := by rw [qz1]; exact hm
  have hc : eb_M l yX10_isOpen (Cond.code yX10_isOpen cX10_isOpen 4 (some .boolean) :: wsL_law) 1 21 D 18 cy rL ad σ [.ref (ad 0), .int a0] (some (.int (eb_b z1))) σ := by rw [qz1]; exact c_X10_isOpen l D cy ad σ a0
  refine eb_callV (n := 1) (as := [.int a0]) (rest := []) X hw hl.1 0 hc (by decide) ⟨rfl, rfl, rfl⟩ (eb_goodV wi_11_4 wi_11_5 wi_11_6 wi_1_5 wi_11_7) rfl (by decide +kernel) ⟨by decide, by decide⟩ rfl rfl (Nat.le_of_ble_eq_true rfl) dX10_poke_2 ⟨by decide, by decide⟩ (st' := [.int (eb_b z1)]) rfl (fun H locs hw => ?_)
  refine lv_if_ne (tgt := 10) hx hb dX10_poke_5 (by decide) (fun h2 => ?_) (fun h2 => ?_)
  · have hm := (if_neg h2).symm.trans hm
    refine lv_aload_n hx hb dX10_poke_10 rfl (lv_at hl 0 rfl) ?_
    refine lv_iload_n hx hb dX10_poke_11 rfl (lv_at hl 1 rfl) ?_
    refine lv_bipush (v := 8) hx hb dX10_poke_12 (by decide) ?_
    refine lv_lload_n hx hb dX10_poke_14 rfl (lv_at hl 2 rfl) ?_
    obtain ⟨z3, qz3⟩ : ∃ t : eb_St, t = m_X10_put σ a0 8 a1 := ⟨_, rfl⟩
    have hm : (true, z3) = mm := by rw [qz3]; exact hm
    have jz3 : rJ z3 := J_X10_put qz3.symm hj_ (l_X10_isOpen (show m_X10_isOpen _ _ = true from by rw [← qz1]; exact (eb_b_n0 h2))).1 (l_X10_isOpen (show m_X10_isOpen _ _ = true from by rw [← qz1]; exact (eb_b_n0 h2))).2
    have hc : eb_M l yX10_put (Cond.code yX10_put cX10_put 6 none :: wsL_law) 0 0 D 18 cy rL ad σ [.ref (ad 0), .int a0, .int 8, .long a1] (none) z3 := by rw [qz3]; exact c_X10_put l D cy ad σ a0 8 a1 hj_ (l_X10_isOpen (show m_X10_isOpen _ _ = true from by rw [← qz1]; exact (eb_b_n0 h2))).1 (l_X10_isOpen (show m_X10_isOpen _ _ = true from by rw [← qz1]; exact (eb_b_n0 h2))).2
    refine eb_callV (n := 3) (as := [.int a0, .int 8, .long a1]) (rest := []) X hw hl.1 0 hc (by decide) ⟨rfl, rfl, rfl⟩ (eb_goodV wi_11_8 wi_11_9 wi_11_10 wi_1_5 wi_11_11) rfl (by decide +kernel) ⟨by decide, by decide⟩ rfl rfl (Nat.le_of_ble_eq_true rfl) dX10_poke_15 ⟨by decide, by decide⟩ (st' := []) rfl (fun H locs hw => ?_)
    refine lv_iconst (v := 1) hx hb dX10_poke_18 (by decide) ?_
    subst hm
    exact eb_zret X hw rfl rfl rfl rfl dX10_poke_19
  · have hm := (if_pos h2).symm.trans hm
    refine lv_iconst (v := 0) hx hb dX10_poke_8 (by decide) ?_
    subst hm
    exact eb_zret X hw rfl rfl rfl rfl dX10_poke_9

set_option maxHeartbeats 4000000 in
set_option maxRecDepth 100000 in
theorem c_X10_peek (l : Launch) (D : va_G) (cy : Nat → ClassId) (ad : Nat → Nat) (σ : eb_St) (a0 : Int32)  : eb_M l yX10_peek (Cond.code yX10_peek cX10_peek 2 (some .long) :: wsL_law) 2 44 D 18 cy rL ad σ [.ref (ad 0), .int a0] (some (.long (m_X10_peek σ a0))) σ := by
  refine eb_start (own := RX10) (by decide) rfl rfl (Nat.le_of_ble_eq_true rfl) ?_
  intro p e s m args below meth c A ls X hw hl
  have hl : lv_has ls 2 [(0, .ref (ad 0)), (1, .int a0)] := hl
  have hx := X.1.1
  have hb := X.1.2.1
  have hown := X.1.2.2.2.1
  have hts := X.1.2.2.2.2
  generalize hm : m_X10_peek σ a0 = mm
  have hm : (fun (z1 : Bool) => (if (eb_b z1) = 0 then 0 else (fun (z3 : Int64) => z3) (m_X10_take σ a0 8))) (m_X10_isOpen σ a0) = mm := hm
  refine lv_aload_n hx hb dX10_peek_0 rfl (lv_at hl 0 rfl) ?_
  refine lv_iload_n hx hb dX10_peek_1 rfl (lv_at hl 1 rfl) ?_
  obtain ⟨z1, qz1⟩ : ∃ t : Bool, t = m_X10_isOpen σ a0 := ⟨_, rfl⟩
  have hm : (if (eb_b z1) = 0 then 0 else (fun (z3 : Int64) => z3) (m_X10_take σ a0 8)) = mm := by rw [qz1]; exact hm
  have hc : eb_M l yX10_isOpen (Cond.code yX10_isOpen cX10_isOpen 4 (some .boolean) :: wsL_law) 1 21 D 18 cy rL ad σ [.ref (ad 0), .int a0] (some (.int (eb_b z1))) σ := by rw [qz1]; exact c_X10_isOpen l D cy ad σ a0
  refine eb_callV (n := 1) (as := [.int a0]) (rest := []) X hw hl.1 0 hc (by decide) ⟨rfl, rfl, rfl⟩ (eb_goodV wi_11_4 wi_11_5 wi_11_6 wi_1_5 wi_11_7) rfl (by decide +kernel) ⟨by decide, by decide⟩ rfl rfl (Nat.le_of_ble_eq_true rfl) dX10_peek_2 ⟨by decide, by decide⟩ (st' := [.int (eb_b z1)]) rfl (fun H locs hw => ?_)
  refine lv_if_eq (tgt := 18) hx hb dX10_peek_5 (by decide) (fun h2 => ?_) (fun h2 => ?_)
  · have hm := (if_pos h2).symm.trans hm
    refine lv_lconst (v := 0) hx hb dX10_peek_18 (by decide) ?_
    subst hm
    exact eb_lret X hw rfl rfl rfl dX10_peek_19
  · have hm := (if_neg h2).symm.trans hm
    refine lv_aload_n hx hb dX10_peek_8 rfl (lv_at hl 0 rfl) ?_
    refine lv_iload_n hx hb dX10_peek_9 rfl (lv_at hl 1 rfl) ?_
    refine lv_bipush (v := 8) hx hb dX10_peek_10 (by decide) ?_
    obtain ⟨z3, qz3⟩ : ∃ t : Int64, t = m_X10_take σ a0 8 := ⟨_, rfl⟩
    have hm : z3 = mm := by rw [qz3]; exact hm
    have hc : eb_M l yX10_take (Cond.code yX10_take cX10_take 6 (some .long) :: wsL_law) 0 0 D 18 cy rL ad σ [.ref (ad 0), .int a0, .int 8] (some (.long z3)) σ := by rw [qz3]; exact c_X10_take l D cy ad σ a0 8 (l_X10_isOpen (show m_X10_isOpen _ _ = true from by rw [← qz1]; exact (eb_b_n0 h2))).1 (l_X10_isOpen (show m_X10_isOpen _ _ = true from by rw [← qz1]; exact (eb_b_n0 h2))).2 (by decide)
    refine eb_callV (n := 2) (as := [.int a0, .int 8]) (rest := []) X hw hl.1 0 hc (by decide) ⟨rfl, rfl, rfl⟩ (eb_goodV wi_12_0 wi_12_1 wi_12_2 wi_1_5 wi_12_3) rfl (by decide +kernel) ⟨by decide, by decide⟩ rfl rfl (Nat.le_of_ble_eq_true rfl) dX10_peek_12 ⟨by decide, by decide⟩ (st' := [.long z3]) rfl (fun H locs hw => ?_)
    refine lv_goto (tgt := 19) hx hb dX10_peek_15 (by decide) ?_
    subst hm
    exact eb_lret X hw rfl rfl rfl dX10_peek_19

set_option maxHeartbeats 4000000 in
set_option maxRecDepth 100000 in
theorem c_X10_enclave (l : Launch) (D : va_G) (cy : Nat → ClassId) (ad : Nat → Nat) (σ : eb_St) (a0 : Int32) (a1 : Int32)  : eb_M l yX10_enclave (Cond.code yX10_enclave cX10_enclave 3 (some .int) :: wsL_law) 1 21 D 18 cy rL ad σ [.ref (ad 0), .int a0, .int a1] (some (.int (m_X10_enclave σ a0 a1))) σ := by
  refine eb_start (own := RX10) (by decide) rfl rfl (Nat.le_of_ble_eq_true rfl) ?_
  intro p e s m args below meth c A ls X hw hl
  have hl : lv_has ls 3 [(0, .ref (ad 0)), (1, .int a0), (2, .int a1)] := hl
  have hx := X.1.1
  have hb := X.1.2.1
  have hown := X.1.2.2.2.1
  have hts := X.1.2.2.2.2
  generalize hm : m_X10_enclave σ a0 a1 = mm
  have hm : (if a0 < 0 then 0 else (if (5 : Int32) < a0 then 0 else (fun (z3 : Bool) => (if (eb_b z3) = 0 then 0 else (if a1 = 0 then σ.1 6 a0.toNatClampNeg else if a1 = 1 then σ.1 7 a0.toNatClampNeg else if a1 = 2 then σ.1 8 a0.toNatClampNeg else if a1 = 3 then σ.1 9 a0.toNatClampNeg else if a1 = 4 then σ.1 10 a0.toNatClampNeg else if a1 = 5 then σ.1 11 a0.toNatClampNeg else if a1 = 6 then σ.1 12 a0.toNatClampNeg else if a1 = 7 then σ.1 13 a0.toNatClampNeg else 0))) (m_X10_isLive σ a0))) = mm := hm
  refine lv_iload_n hx hb dX10_enclave_0 rfl (lv_at hl 1 rfl) ?_
  refine lv_if_lt (tgt := 17) hx hb dX10_enclave_1 (by decide) (fun h1 => ?_) (fun h1 => ?_)
  · have hm := (if_pos h1).symm.trans hm
    refine lv_iconst (v := 0) hx hb dX10_enclave_17 (by decide) ?_
    subst hm
    exact eb_iret X hw rfl rfl rfl dX10_enclave_18
  · have hm := (if_neg h1).symm.trans hm
    refine lv_iload_n hx hb dX10_enclave_4 rfl (lv_at hl 1 rfl) ?_
    refine lv_iconst (v := 5) hx hb dX10_enclave_5 (by decide) ?_
    refine lv_icmp_gt (tgt := 17) hx hb dX10_enclave_6 (by decide) (fun h2 => ?_) (fun h2 => ?_)
    · have hm := (if_pos h2).symm.trans hm
      refine lv_iconst (v := 0) hx hb dX10_enclave_17 (by decide) ?_
      subst hm
      exact eb_iret X hw rfl rfl rfl dX10_enclave_18
    · have hm := (if_neg h2).symm.trans hm
      refine lv_aload_n hx hb dX10_enclave_9 rfl (lv_at hl 0 rfl) ?_
      refine lv_iload_n hx hb dX10_enclave_10 rfl (lv_at hl 1 rfl) ?_
      obtain ⟨z3, qz3⟩ : ∃ t : Bool, t = m_X10_isLive σ a0 := ⟨_, rfl⟩
      have hm : (if (eb_b z3) = 0 then 0 else (if a1 = 0 then σ.1 6 a0.toNatClampNeg else if a1 = 1 then σ.1 7 a0.toNatClampNeg else if a1 = 2 then σ.1 8 a0.toNatClampNeg else if a1 = 3 then σ.1 9 a0.toNatClampNeg else if a1 = 4 then σ.1 10 a0.toNatClampNeg else if a1 = 5 then σ.1 11 a0.toNatClampNeg else if a1 = 6 then σ.1 12 a0.toNatClampNeg else if a1 = 7 then σ.1 13 a0.toNatClampNeg else 0)) = mm := by rw [qz3]; exact hm
      have hc : eb_M l yX10_isLive (Cond.code yX10_isLive cX10_isLive 2 (some .boolean) :: wsL_law) 0 0 D 18 cy rL ad σ [.ref (ad 0), .int a0] (some (.int (eb_b z3))) σ := by rw [qz3]; exact c_X10_isLive l D cy ad σ a0 (eb_rngl (eb_nlt h1) (eb_nlt h2) (by decide) (by decide))
      refine eb_callV (n := 1) (as := [.int a0]) (rest := []) X hw hl.1 0 hc (by decide) ⟨rfl, rfl, rfl⟩ (eb_goodV wi_9_22 wi_9_23 wi_10_0 wi_1_5 wi_10_1) rfl (by decide +kernel) ⟨by decide, by decide⟩ rfl rfl (Nat.le_of_ble_eq_true rfl) dX10_enclave_11 ⟨by decide, by decide⟩ (st' := [.int (eb_b z3)]) rfl (fun H locs hw => ?_)
      refine lv_if_ne (tgt := 19) hx hb dX10_enclave_14 (by decide) (fun h4 => ?_) (fun h4 => ?_)
      · have hm := (if_neg h4).symm.trans hm
        refine lv_iload_n hx hb dX10_enclave_19 rfl (lv_at hl 2 rfl) ?_
        by_cases h5 : a1 = 0
        · have hm := (if_pos h5).symm.trans hm
          refine lv_tableIn (off := 48) (tgt := 68) hx hb dX10_enclave_20 (by rw [h5]; decide) (by rw [h5]; decide) (by rw [h5]; rfl) (by decide) ?_
          refine lv_aload_n hx hb dX10_enclave_68 rfl (lv_at hl 0 rfl) ?_
          refine eb_get (T := TX10) X hw 0 22 (by decide) ⟨rfl, rfl, rfl⟩ (by decide) (fun _ h => List.mem_cons_of_mem _ (inlX10 _ h)) (List.mem_cons_of_mem _ wi_5_16) (v := .ref (ad 6)) rfl dX10_enclave_69 ?_
          refine lv_iload_n hx hb dX10_enclave_72 rfl (lv_at hl 1 rfl) ?_
          refine eb_iald (n := 6) X hw 6 (by decide) rfl rfl (eb_rngl (eb_nlt h1) (eb_nlt h2) (by decide) (by decide)) dX10_enclave_73 ?_
          subst hm
          exact eb_iret X hw rfl rfl rfl dX10_enclave_74
        · have hm := (if_neg h5).symm.trans hm
          by_cases h6 : a1 = 1
          · have hm := (if_pos h6).symm.trans hm
            refine lv_tableIn (off := 55) (tgt := 75) hx hb dX10_enclave_20 (by rw [h6]; decide) (by rw [h6]; decide) (by rw [h6]; rfl) (by decide) ?_
            refine lv_aload_n hx hb dX10_enclave_75 rfl (lv_at hl 0 rfl) ?_
            refine eb_get (T := TX10) X hw 0 23 (by decide) ⟨rfl, rfl, rfl⟩ (by decide) (fun _ h => List.mem_cons_of_mem _ (inlX10 _ h)) (List.mem_cons_of_mem _ wi_5_17) (v := .ref (ad 7)) rfl dX10_enclave_76 ?_
            refine lv_iload_n hx hb dX10_enclave_79 rfl (lv_at hl 1 rfl) ?_
            refine eb_iald (n := 6) X hw 7 (by decide) rfl rfl (eb_rngl (eb_nlt h1) (eb_nlt h2) (by decide) (by decide)) dX10_enclave_80 ?_
            subst hm
            exact eb_iret X hw rfl rfl rfl dX10_enclave_81
          · have hm := (if_neg h6).symm.trans hm
            by_cases h7 : a1 = 2
            · have hm := (if_pos h7).symm.trans hm
              refine lv_tableIn (off := 62) (tgt := 82) hx hb dX10_enclave_20 (by rw [h7]; decide) (by rw [h7]; decide) (by rw [h7]; rfl) (by decide) ?_
              refine lv_aload_n hx hb dX10_enclave_82 rfl (lv_at hl 0 rfl) ?_
              refine eb_get (T := TX10) X hw 0 24 (by decide) ⟨rfl, rfl, rfl⟩ (by decide) (fun _ h => List.mem_cons_of_mem _ (inlX10 _ h)) (List.mem_cons_of_mem _ wi_5_18) (v := .ref (ad 8)) rfl dX10_enclave_83 ?_
              refine lv_iload_n hx hb dX10_enclave_86 rfl (lv_at hl 1 rfl) ?_
              refine eb_iald (n := 6) X hw 8 (by decide) rfl rfl (eb_rngl (eb_nlt h1) (eb_nlt h2) (by decide) (by decide)) dX10_enclave_87 ?_
              subst hm
              exact eb_iret X hw rfl rfl rfl dX10_enclave_88
            · have hm := (if_neg h7).symm.trans hm
              by_cases h8 : a1 = 3
              · have hm := (if_pos h8).symm.trans hm
                refine lv_tableIn (off := 69) (tgt := 89) hx hb dX10_enclave_20 (by rw [h8]; decide) (by rw [h8]; decide) (by rw [h8]; rfl) (by decide) ?_
                refine lv_aload_n hx hb dX10_enclave_89 rfl (lv_at hl 0 rfl) ?_
                refine eb_get (T := TX10) X hw 0 25 (by decide) ⟨rfl, rfl, rfl⟩ (by decide) (fun _ h => List.mem_cons_of_mem _ (inlX10 _ h)) (List.mem_cons_of_mem _ wi_5_19) (v := .ref (ad 9)) rfl dX10_enclave_90 ?_
                refine lv_iload_n hx hb dX10_enclave_93 rfl (lv_at hl 1 rfl) ?_
                refine eb_iald (n := 6) X hw 9 (by decide) rfl rfl (eb_rngl (eb_nlt h1) (eb_nlt h2) (by decide) (by decide)) dX10_enclave_94 ?_
                subst hm
                exact eb_iret X hw rfl rfl rfl dX10_enclave_95
              · have hm := (if_neg h8).symm.trans hm
                by_cases h9 : a1 = 4
                · have hm := (if_pos h9).symm.trans hm
                  refine lv_tableIn (off := 76) (tgt := 96) hx hb dX10_enclave_20 (by rw [h9]; decide) (by rw [h9]; decide) (by rw [h9]; rfl) (by decide) ?_
                  refine lv_aload_n hx hb dX10_enclave_96 rfl (lv_at hl 0 rfl) ?_
                  refine eb_get (T := TX10) X hw 0 26 (by decide) ⟨rfl, rfl, rfl⟩ (by decide) (fun _ h => List.mem_cons_of_mem _ (inlX10 _ h)) (List.mem_cons_of_mem _ wi_5_20) (v := .ref (ad 10)) rfl dX10_enclave_97 ?_
                  refine lv_iload_n hx hb dX10_enclave_100 rfl (lv_at hl 1 rfl) ?_
                  refine eb_iald (n := 6) X hw 10 (by decide) rfl rfl (eb_rngl (eb_nlt h1) (eb_nlt h2) (by decide) (by decide)) dX10_enclave_101 ?_
                  subst hm
                  exact eb_iret X hw rfl rfl rfl dX10_enclave_102
                · have hm := (if_neg h9).symm.trans hm
                  by_cases h10 : a1 = 5
                  · have hm := (if_pos h10).symm.trans hm
                    refine lv_tableIn (off := 83) (tgt := 103) hx hb dX10_enclave_20 (by rw [h10]; decide) (by rw [h10]; decide) (by rw [h10]; rfl) (by decide) ?_
                    refine lv_aload_n hx hb dX10_enclave_103 rfl (lv_at hl 0 rfl) ?_
                    refine eb_get (T := TX10) X hw 0 27 (by decide) ⟨rfl, rfl, rfl⟩ (by decide) (fun _ h => List.mem_cons_of_mem _ (inlX10 _ h)) (List.mem_cons_of_mem _ wi_5_21) (v := .ref (ad 11)) rfl dX10_enclave_104 ?_
                    refine lv_iload_n hx hb dX10_enclave_107 rfl (lv_at hl 1 rfl) ?_
                    refine eb_iald (n := 6) X hw 11 (by decide) rfl rfl (eb_rngl (eb_nlt h1) (eb_nlt h2) (by decide) (by decide)) dX10_enclave_108 ?_
                    subst hm
                    exact eb_iret X hw rfl rfl rfl dX10_enclave_109
                  · have hm := (if_neg h10).symm.trans hm
                    by_cases h11 : a1 = 6
                    · have hm := (if_pos h11).symm.trans hm
                      refine lv_tableIn (off := 90) (tgt := 110) hx hb dX10_enclave_20 (by rw [h11]; decide) (by rw [h11]; decide) (by rw [h11]; rfl) (by decide) ?_
                      refine lv_aload_n hx hb dX10_enclave_110 rfl (lv_at hl 0 rfl) ?_
                      refine eb_get (T := TX10) X hw 0 28 (by decide) ⟨rfl, rfl, rfl⟩ (by decide) (fun _ h => List.mem_cons_of_mem _ (inlX10 _ h)) (List.mem_cons_of_mem _ wi_5_22) (v := .ref (ad 12)) rfl dX10_enclave_111 ?_
                      refine lv_iload_n hx hb dX10_enclave_114 rfl (lv_at hl 1 rfl) ?_
                      refine eb_iald (n := 6) X hw 12 (by decide) rfl rfl (eb_rngl (eb_nlt h1) (eb_nlt h2) (by decide) (by decide)) dX10_enclave_115 ?_
                      subst hm
                      exact eb_iret X hw rfl rfl rfl dX10_enclave_116
                    · have hm := (if_neg h11).symm.trans hm
                      by_cases h12 : a1 = 7
                      · have hm := (if_pos h12).symm.trans hm
                        refine lv_tableIn (off := 97) (tgt := 117) hx hb dX10_enclave_20 (by rw [h12]; decide) (by rw [h12]; decide) (by rw [h12]; rfl) (by decide) ?_
                        refine lv_aload_n hx hb dX10_enclave_117 rfl (lv_at hl 0 rfl) ?_
                        refine eb_get (T := TX10) X hw 0 29 (by decide) ⟨rfl, rfl, rfl⟩ (by decide) (fun _ h => List.mem_cons_of_mem _ (inlX10 _ h)) (List.mem_cons_of_mem _ wi_5_23) (v := .ref (ad 13)) rfl dX10_enclave_118 ?_
                        refine lv_iload_n hx hb dX10_enclave_121 rfl (lv_at hl 1 rfl) ?_
                        refine eb_iald (n := 6) X hw 13 (by decide) rfl rfl (eb_rngl (eb_nlt h1) (eb_nlt h2) (by decide) (by decide)) dX10_enclave_122 ?_
                        subst hm
                        exact eb_iret X hw rfl rfl rfl dX10_enclave_123
                      · have hm := (if_neg h12).symm.trans hm
                        refine lv_tableOut (tgt := 124) hx hb dX10_enclave_20 (by have qh5 := lv_neT h5 (a := 0) (by decide); have qh6 := lv_neT h6 (a := 1) (by decide); have qh7 := lv_neT h7 (a := 2) (by decide); have qh8 := lv_neT h8 (a := 3) (by decide); have qh9 := lv_neT h9 (a := 4) (by decide); have qh10 := lv_neT h10 (a := 5) (by decide); have qh11 := lv_neT h11 (a := 6) (by decide); have qh12 := lv_neT h12 (a := 7) (by decide); omega) (by decide) ?_
                        refine lv_iconst (v := 0) hx hb dX10_enclave_124 (by decide) ?_
                        subst hm
                        exact eb_iret X hw rfl rfl rfl dX10_enclave_125
      · have hm := (if_pos h4).symm.trans hm
        refine lv_iconst (v := 0) hx hb dX10_enclave_17 (by decide) ?_
        subst hm
        exact eb_iret X hw rfl rfl rfl dX10_enclave_18

theorem J_X10_immediate {σ : eb_St}  {mm : Int32 × eb_St} (hm : m_X10_immediate σ = mm) (hj_ : rJ σ) : rJ mm.2 := by
  have hm : (fun (z1 : Int64) => (fun (x2 : Int64) => (fun (x3 : Int32) => (fun (x4 : Int32) => (if (σ.1 0 41) = 0 then (fun (z6 : Int32 × eb_St) => (z6.1, z6.2)) (m_X10_sets σ (z1 + x2)) else if (σ.1 0 41) = 1 then (if x4 = 0 then (fun (z9 : Int32 × eb_St) => (z9.1, z9.2)) (m_X10_sets σ (eb_lshl z1 x3)) else (fun (z10 : Int32 × eb_St) => (z10.1, z10.2)) (m_X10_illegal σ)) else if (σ.1 0 41) = 2 then (if x2 ≤ z1 then (fun (z13 : Int32 × eb_St) => (z13.1, z13.2)) (m_X10_sets σ 0) else (fun (z14 : Int32 × eb_St) => (z14.1, z14.2)) (m_X10_sets σ 1)) else if (σ.1 0 41) = 3 then (fun (z16 : Bool) => (if (eb_b z16) = 0 then (fun (z18 : Int32 × eb_St) => (z18.1, z18.2)) (m_X10_sets σ 0) else (fun (z19 : Int32 × eb_St) => (z19.1, z19.2)) (m_X10_sets σ 1))) (m_X10_isBelow z1 x2) else if (σ.1 0 41) = 4 then (fun (z21 : Int32 × eb_St) => (z21.1, z21.2)) (m_X10_sets σ (z1 ^^^ x2)) else if (σ.1 0 41) = 5 then (if x4 = 0 then (fun (z27 : Int32 × eb_St) => (z27.1, z27.2)) (m_X10_sets σ (eb_lushr z1 x3)) else (if x4 = 16 then (fun (z26 : Int32 × eb_St) => (z26.1, z26.2)) (m_X10_sets σ (eb_lshr z1 x3)) else (fun (z25 : Int32 × eb_St) => (z25.1, z25.2)) (m_X10_illegal σ))) else if (σ.1 0 41) = 6 then (fun (z29 : Int32 × eb_St) => (z29.1, z29.2)) (m_X10_sets σ (z1 ||| x2)) else (fun (z30 : Int32 × eb_St) => (z30.1, z30.2)) (m_X10_sets σ (z1 &&& x2)))) (eb_iushr (σ.1 0 37) 26)) (((σ.1 0 37) >>> (20 &&& 31)) &&& 63)) (((σ.1 0 37) >>> (20 &&& 31)).toInt64)) (m_X10_x σ (σ.1 0 39)) = mm := hm
  obtain ⟨z1, qz1⟩ : ∃ t : Int64, t = m_X10_x σ (σ.1 0 39) := ⟨_, rfl⟩
  have hm : (fun (x2 : Int64) => (fun (x3 : Int32) => (fun (x4 : Int32) => (if (σ.1 0 41) = 0 then (fun (z6 : Int32 × eb_St) => (z6.1, z6.2)) (m_X10_sets σ (z1 + x2)) else if (σ.1 0 41) = 1 then (if x4 = 0 then (fun (z9 : Int32 × eb_St) => (z9.1, z9.2)) (m_X10_sets σ (eb_lshl z1 x3)) else (fun (z10 : Int32 × eb_St) => (z10.1, z10.2)) (m_X10_illegal σ)) else if (σ.1 0 41) = 2 then (if x2 ≤ z1 then (fun (z13 : Int32 × eb_St) => (z13.1, z13.2)) (m_X10_sets σ 0) else (fun (z14 : Int32 × eb_St) => (z14.1, z14.2)) (m_X10_sets σ 1)) else if (σ.1 0 41) = 3 then (fun (z16 : Bool) => (if (eb_b z16) = 0 then (fun (z18 : Int32 × eb_St) => (z18.1, z18.2)) (m_X10_sets σ 0) else (fun (z19 : Int32 × eb_St) => (z19.1, z19.2)) (m_X10_sets σ 1))) (m_X10_isBelow z1 x2) else if (σ.1 0 41) = 4 then (fun (z21 : Int32 × eb_St) => (z21.1, z21.2)) (m_X10_sets σ (z1 ^^^ x2)) else if (σ.1 0 41) = 5 then (if x4 = 0 then (fun (z27 : Int32 × eb_St) => (z27.1, z27.2)) (m_X10_sets σ (eb_lushr z1 x3)) else (if x4 = 16 then (fun (z26 : Int32 × eb_St) => (z26.1, z26.2)) (m_X10_sets σ (eb_lshr z1 x3)) else (fun (z25 : Int32 × eb_St) => (z25.1, z25.2)) (m_X10_illegal σ))) else if (σ.1 0 41) = 6 then (fun (z29 : Int32 × eb_St) => (z29.1, z29.2)) (m_X10_sets σ (z1 ||| x2)) else (fun (z30 : Int32 × eb_St) => (z30.1, z30.2)) (m_X10_sets σ (z1 &&& x2)))) (eb_iushr (σ.1 0 37) 26)) (((σ.1 0 37) >>> (20 &&& 31)) &&& 63)) (((σ.1 0 37) >>> (20 &&& 31)).toInt64) = mm := by rw [qz1]; exact hm
  obtain ⟨x2, ex2⟩ : ∃ z : Int64, z = ((σ.1 0 37) >>> (20 &&& 31)).toInt64 := ⟨_, rfl⟩
  have hm : (fun (x3 : Int32) => (fun (x4 : Int32) => (if (σ.1 0 41) = 0 then (fun (z6 : Int32 × eb_St) => (z6.1, z6.2)) (m_X10_sets σ (z1 + x2)) else if (σ.1 0 41) = 1 then (if x4 = 0 then (fun (z9 : Int32 × eb_St) => (z9.1, z9.2)) (m_X10_sets σ (eb_lshl z1 x3)) else (fun (z10 : Int32 × eb_St) => (z10.1, z10.2)) (m_X10_illegal σ)) else if (σ.1 0 41) = 2 then (if x2 ≤ z1 then (fun (z13 : Int32 × eb_St) => (z13.1, z13.2)) (m_X10_sets σ 0) else (fun (z14 : Int32 × eb_St) => (z14.1, z14.2)) (m_X10_sets σ 1)) else if (σ.1 0 41) = 3 then (fun (z16 : Bool) => (if (eb_b z16) = 0 then (fun (z18 : Int32 × eb_St) => (z18.1, z18.2)) (m_X10_sets σ 0) else (fun (z19 : Int32 × eb_St) => (z19.1, z19.2)) (m_X10_sets σ 1))) (m_X10_isBelow z1 x2) else if (σ.1 0 41) = 4 then (fun (z21 : Int32 × eb_St) => (z21.1, z21.2)) (m_X10_sets σ (z1 ^^^ x2)) else if (σ.1 0 41) = 5 then (if x4 = 0 then (fun (z27 : Int32 × eb_St) => (z27.1, z27.2)) (m_X10_sets σ (eb_lushr z1 x3)) else (if x4 = 16 then (fun (z26 : Int32 × eb_St) => (z26.1, z26.2)) (m_X10_sets σ (eb_lshr z1 x3)) else (fun (z25 : Int32 × eb_St) => (z25.1, z25.2)) (m_X10_illegal σ))) else if (σ.1 0 41) = 6 then (fun (z29 : Int32 × eb_St) => (z29.1, z29.2)) (m_X10_sets σ (z1 ||| x2)) else (fun (z30 : Int32 × eb_St) => (z30.1, z30.2)) (m_X10_sets σ (z1 &&& x2)))) (eb_iushr (σ.1 0 37) 26)) (((σ.1 0 37) >>> (20 &&& 31)) &&& 63) = mm := by rw [ex2]; exact hm
  obtain ⟨x3, ex3⟩ : ∃ z : Int32, z = ((σ.1 0 37) >>> (20 &&& 31)) &&& 63 := ⟨_, rfl⟩
  have hm : (fun (x4 : Int32) => (if (σ.1 0 41) = 0 then (fun (z6 : Int32 × eb_St) => (z6.1, z6.2)) (m_X10_sets σ (z1 + x2)) else if (σ.1 0 41) = 1 then (if x4 = 0 then (fun (z9 : Int32 × eb_St) => (z9.1, z9.2)) (m_X10_sets σ (eb_lshl z1 x3)) else (fun (z10 : Int32 × eb_St) => (z10.1, z10.2)) (m_X10_illegal σ)) else if (σ.1 0 41) = 2 then (if x2 ≤ z1 then (fun (z13 : Int32 × eb_St) => (z13.1, z13.2)) (m_X10_sets σ 0) else (fun (z14 : Int32 × eb_St) => (z14.1, z14.2)) (m_X10_sets σ 1)) else if (σ.1 0 41) = 3 then (fun (z16 : Bool) => (if (eb_b z16) = 0 then (fun (z18 : Int32 × eb_St) => (z18.1, z18.2)) (m_X10_sets σ 0) else (fun (z19 : Int32 × eb_St) => (z19.1, z19.2)) (m_X10_sets σ 1))) (m_X10_isBelow z1 x2) else if (σ.1 0 41) = 4 then (fun (z21 : Int32 × eb_St) => (z21.1, z21.2)) (m_X10_sets σ (z1 ^^^ x2)) else if (σ.1 0 41) = 5 then (if x4 = 0 then (fun (z27 : Int32 × eb_St) => (z27.1, z27.2)) (m_X10_sets σ (eb_lushr z1 x3)) else (if x4 = 16 then (fun (z26 : Int32 × eb_St) => (z26.1, z26.2)) (m_X10_sets σ (eb_lshr z1 x3)) else (fun (z25 : Int32 × eb_St) => (z25.1, z25.2)) (m_X10_illegal σ))) else if (σ.1 0 41) = 6 then (fun (z29 : Int32 × eb_St) => (z29.1, z29.2)) (m_X10_sets σ (z1 ||| x2)) else (fun (z30 : Int32 × eb_St) => (z30.1, z30.2)) (m_X10_sets σ (z1 &&& x2)))) (eb_iushr (σ.1 0 37) 26) = mm := by rw [ex3]; exact hm
  obtain ⟨x4, ex4⟩ : ∃ z : Int32, z = eb_iushr (σ.1 0 37) 26 := ⟨_, rfl⟩
  have hm : (if (σ.1 0 41) = 0 then (fun (z6 : Int32 × eb_St) => (z6.1, z6.2)) (m_X10_sets σ (z1 + x2)) else if (σ.1 0 41) = 1 then (if x4 = 0 then (fun (z9 : Int32 × eb_St) => (z9.1, z9.2)) (m_X10_sets σ (eb_lshl z1 x3)) else (fun (z10 : Int32 × eb_St) => (z10.1, z10.2)) (m_X10_illegal σ)) else if (σ.1 0 41) = 2 then (if x2 ≤ z1 then (fun (z13 : Int32 × eb_St) => (z13.1, z13.2)) (m_X10_sets σ 0) else (fun (z14 : Int32 × eb_St) => (z14.1, z14.2)) (m_X10_sets σ 1)) else if (σ.1 0 41) = 3 then (fun (z16 : Bool) => (if (eb_b z16) = 0 then (fun (z18 : Int32 × eb_St) => (z18.1, z18.2)) (m_X10_sets σ 0) else (fun (z19 : Int32 × eb_St) => (z19.1, z19.2)) (m_X10_sets σ 1))) (m_X10_isBelow z1 x2) else if (σ.1 0 41) = 4 then (fun (z21 : Int32 × eb_St) => (z21.1, z21.2)) (m_X10_sets σ (z1 ^^^ x2)) else if (σ.1 0 41) = 5 then (if x4 = 0 then (fun (z27 : Int32 × eb_St) => (z27.1, z27.2)) (m_X10_sets σ (eb_lushr z1 x3)) else (if x4 = 16 then (fun (z26 : Int32 × eb_St) => (z26.1, z26.2)) (m_X10_sets σ (eb_lshr z1 x3)) else (fun (z25 : Int32 × eb_St) => (z25.1, z25.2)) (m_X10_illegal σ))) else if (σ.1 0 41) = 6 then (fun (z29 : Int32 × eb_St) => (z29.1, z29.2)) (m_X10_sets σ (z1 ||| x2)) else (fun (z30 : Int32 × eb_St) => (z30.1, z30.2)) (m_X10_sets σ (z1 &&& x2))) = mm := by rw [ex4]; exact hm
  by_cases h5 : (σ.1 0 41) = 0
  · have hm := (if_pos h5).symm.trans hm
    obtain ⟨z6, qz6⟩ : ∃ t : Int32 × eb_St, t = m_X10_sets σ (z1 + x2) := ⟨_, rfl⟩
    have hm : (z6.1, z6.2) = mm := by rw [qz6]; exact hm
    have jz6 : rJ z6.2 := J_X10_sets qz6.symm hj_
    subst hm
    exact jz6
  · have hm := (if_neg h5).symm.trans hm
    by_cases h7 : (σ.1 0 41) = 1
    · have hm := (if_pos h7).symm.trans hm
      refine eb_em (c := x4 = 0) (fun h8 => ?_) (fun h8 => ?_)
      · have hm := (if_pos h8).symm.trans hm
        obtain ⟨z9, qz9⟩ : ∃ t : Int32 × eb_St, t = m_X10_sets σ (eb_lshl z1 x3) := ⟨_, rfl⟩
        have hm : (z9.1, z9.2) = mm := by rw [qz9]; exact hm
        have jz9 : rJ z9.2 := J_X10_sets qz9.symm hj_
        subst hm
        exact jz9
      · have hm := (if_neg h8).symm.trans hm
        obtain ⟨z10, qz10⟩ : ∃ t : Int32 × eb_St, t = m_X10_illegal σ := ⟨_, rfl⟩
        have hm : (z10.1, z10.2) = mm := by rw [qz10]; exact hm
        have jz10 : rJ z10.2 := J_X10_illegal qz10.symm hj_
        subst hm
        exact jz10
    · have hm := (if_neg h7).symm.trans hm
      by_cases h11 : (σ.1 0 41) = 2
      · have hm := (if_pos h11).symm.trans hm
        refine eb_em (c := x2 ≤ z1) (fun h12 => ?_) (fun h12 => ?_)
        · have hm := (if_pos h12).symm.trans hm
          obtain ⟨z13, qz13⟩ : ∃ t : Int32 × eb_St, t = m_X10_sets σ 0 := ⟨_, rfl⟩
          have hm : (z13.1, z13.2) = mm := by rw [qz13]; exact hm
          have jz13 : rJ z13.2 := J_X10_sets qz13.symm hj_
          subst hm
          exact jz13
        · have hm := (if_neg h12).symm.trans hm
          obtain ⟨z14, qz14⟩ : ∃ t : Int32 × eb_St, t = m_X10_sets σ 1 := ⟨_, rfl⟩
          have hm : (z14.1, z14.2) = mm := by rw [qz14]; exact hm
          have jz14 : rJ z14.2 := J_X10_sets qz14.symm hj_
          subst hm
          exact jz14
      · have hm := (if_neg h11).symm.trans hm
        by_cases h15 : (σ.1 0 41) = 3
        · have hm := (if_pos h15).symm.trans hm
          obtain ⟨z16, qz16⟩ : ∃ t : Bool, t = m_X10_isBelow z1 x2 := ⟨_, rfl⟩
          have hm : (if (eb_b z16) = 0 then (fun (z18 : Int32 × eb_St) => (z18.1, z18.2)) (m_X10_sets σ 0) else (fun (z19 : Int32 × eb_St) => (z19.1, z19.2)) (m_X10_sets σ 1)) = mm := by rw [qz16]; exact hm
          refine eb_em (c := (eb_b z16) = 0) (fun h17 => ?_) (fun h17 => ?_)
          · have hm := (if_pos h17).symm.trans hm
            obtain ⟨z18, qz18⟩ : ∃ t : Int32 × eb_St, t = m_X10_sets σ 0 := ⟨_, rfl⟩
            have hm : (z18.1, z18.2) = mm := by rw [qz18]; exact hm
            have jz18 : rJ z18.2 := J_X10_sets qz18.symm hj_
            subst hm
            exact jz18
          · have hm := (if_neg h17).symm.trans hm
            obtain ⟨z19, qz19⟩ : ∃ t : Int32 × eb_St, t = m_X10_sets σ 1 := ⟨_, rfl⟩
            have hm : (z19.1, z19.2) = mm := by rw [qz19]; exact hm
            have jz19 : rJ z19.2 := J_X10_sets qz19.symm hj_
            subst hm
            exact jz19
        · have hm := (if_neg h15).symm.trans hm
          by_cases h20 : (σ.1 0 41) = 4
          · have hm := (if_pos h20).symm.trans hm
            obtain ⟨z21, qz21⟩ : ∃ t : Int32 × eb_St, t = m_X10_sets σ (z1 ^^^ x2) := ⟨_, rfl⟩
            have hm : (z21.1, z21.2) = mm := by rw [qz21]; exact hm
            have jz21 : rJ z21.2 := J_X10_sets qz21.symm hj_
            subst hm
            exact jz21
          · have hm := (if_neg h20).symm.trans hm
            by_cases h22 : (σ.1 0 41) = 5
            · have hm := (if_pos h22).symm.trans hm
              refine eb_emn (c := x4 = 0) (fun h23 => ?_) (fun h23 => ?_)
              · have hm := (if_neg h23).symm.trans hm
                refine eb_emn (c := x4 = 16) (fun h24 => ?_) (fun h24 => ?_)
                · have hm := (if_neg h24).symm.trans hm
                  obtain ⟨z25, qz25⟩ : ∃ t : Int32 × eb_St, t = m_X10_illegal σ := ⟨_, rfl⟩
                  have hm : (z25.1, z25.2) = mm := by rw [qz25]; exact hm
                  have jz25 : rJ z25.2 := J_X10_illegal qz25.symm hj_
                  subst hm
                  exact jz25
                · have hm := (if_pos h24).symm.trans hm
                  obtain ⟨z26, qz26⟩ : ∃ t : Int32 × eb_St, t = m_X10_sets σ (eb_lshr z1 x3) := ⟨_, rfl⟩
                  have hm : (z26.1, z26.2) = mm := by rw [qz26]; exact hm
                  have jz26 : rJ z26.2 := J_X10_sets qz26.symm hj_
                  subst hm
                  exact jz26
              · have hm := (if_pos h23).symm.trans hm
                obtain ⟨z27, qz27⟩ : ∃ t : Int32 × eb_St, t = m_X10_sets σ (eb_lushr z1 x3) := ⟨_, rfl⟩
                have hm : (z27.1, z27.2) = mm := by rw [qz27]; exact hm
                have jz27 : rJ z27.2 := J_X10_sets qz27.symm hj_
                subst hm
                exact jz27
            · have hm := (if_neg h22).symm.trans hm
              by_cases h28 : (σ.1 0 41) = 6
              · have hm := (if_pos h28).symm.trans hm
                obtain ⟨z29, qz29⟩ : ∃ t : Int32 × eb_St, t = m_X10_sets σ (z1 ||| x2) := ⟨_, rfl⟩
                have hm : (z29.1, z29.2) = mm := by rw [qz29]; exact hm
                have jz29 : rJ z29.2 := J_X10_sets qz29.symm hj_
                subst hm
                exact jz29
              · have hm := (if_neg h28).symm.trans hm
                obtain ⟨z30, qz30⟩ : ∃ t : Int32 × eb_St, t = m_X10_sets σ (z1 &&& x2) := ⟨_, rfl⟩
                have hm : (z30.1, z30.2) = mm := by rw [qz30]; exact hm
                have jz30 : rJ z30.2 := J_X10_sets qz30.symm hj_
                subst hm
                exact jz30
set_option maxHeartbeats 4000000 in
set_option maxRecDepth 100000 in
theorem c_X10_immediate (l : Launch) (D : va_G) (cy : Nat → ClassId) (ad : Nat → Nat) (σ : eb_St)  (hj_ : rJ σ) : eb_M l yX10_immediate (Cond.code yX10_immediate cX10_immediate 7 (some .int) :: wsL_law) 3 65 D 18 cy rL ad σ [.ref (ad 0)] (some (.int (m_X10_immediate σ).1)) ((m_X10_immediate σ).2) := by
  refine eb_start (own := RX10) (by decide) rfl rfl (Nat.le_of_ble_eq_true rfl) ?_
  intro p e s m args below meth c A ls X hw hl
  have hl : lv_has ls 7 [(0, .ref (ad 0))] := hl
  have hx := X.1.1
  have hb := X.1.2.1
  have hown := X.1.2.2.2.1
  have hts := X.1.2.2.2.2
  generalize hm : m_X10_immediate σ = mm
  have hm : (fun (z1 : Int64) => (fun (x2 : Int64) => (fun (x3 : Int32) => (fun (x4 : Int32) => (if (σ.1 0 41) = 0 then (fun (z6 : Int32 × eb_St) => (z6.1, z6.2)) (m_X10_sets σ (z1 + x2)) else if (σ.1 0 41) = 1 then (if x4 = 0 then (fun (z9 : Int32 × eb_St) => (z9.1, z9.2)) (m_X10_sets σ (eb_lshl z1 x3)) else (fun (z10 : Int32 × eb_St) => (z10.1, z10.2)) (m_X10_illegal σ)) else if (σ.1 0 41) = 2 then (if x2 ≤ z1 then (fun (z13 : Int32 × eb_St) => (z13.1, z13.2)) (m_X10_sets σ 0) else (fun (z14 : Int32 × eb_St) => (z14.1, z14.2)) (m_X10_sets σ 1)) else if (σ.1 0 41) = 3 then (fun (z16 : Bool) => (if (eb_b z16) = 0 then (fun (z18 : Int32 × eb_St) => (z18.1, z18.2)) (m_X10_sets σ 0) else (fun (z19 : Int32 × eb_St) => (z19.1, z19.2)) (m_X10_sets σ 1))) (m_X10_isBelow z1 x2) else if (σ.1 0 41) = 4 then (fun (z21 : Int32 × eb_St) => (z21.1, z21.2)) (m_X10_sets σ (z1 ^^^ x2)) else if (σ.1 0 41) = 5 then (if x4 = 0 then (fun (z27 : Int32 × eb_St) => (z27.1, z27.2)) (m_X10_sets σ (eb_lushr z1 x3)) else (if x4 = 16 then (fun (z26 : Int32 × eb_St) => (z26.1, z26.2)) (m_X10_sets σ (eb_lshr z1 x3)) else (fun (z25 : Int32 × eb_St) => (z25.1, z25.2)) (m_X10_illegal σ))) else if (σ.1 0 41) = 6 then (fun (z29 : Int32 × eb_St) => (z29.1, z29.2)) (m_X10_sets σ (z1 ||| x2)) else (fun (z30 : Int32 × eb_St) => (z30.1, z30.2)) (m_X10_sets σ (z1 &&& x2)))) (eb_iushr (σ.1 0 37) 26)) (((σ.1 0 37) >>> (20 &&& 31)) &&& 63)) (((σ.1 0 37) >>> (20 &&& 31)).toInt64)) (m_X10_x σ (σ.1 0 39)) = mm := hm
  refine lv_aload_n hx hb dX10_immediate_0 rfl (lv_at hl 0 rfl) ?_
  refine lv_aload_n hx hb dX10_immediate_1 rfl (lv_at hl 0 rfl) ?_
  refine eb_get (T := TX10) X hw 0 39 (by decide) ⟨rfl, rfl, rfl⟩ (by decide) (fun _ h => List.mem_cons_of_mem _ (inlX10 _ h)) (List.mem_cons_of_mem _ wi_30_11) (v := .int (σ.1 0 39)) rfl dX10_immediate_2 ?_
  obtain ⟨z1, qz1⟩ : ∃ t : Int64, t = m_X10_x σ (σ.1 0 39) := ⟨_, rfl⟩
  have hm : (fun (x2 : Int64) => (fun (x3 : Int32) => (fun (x4 : Int32) => (if (σ.1 0 41) = 0 then (fun (z6 : Int32 × eb_St) => (z6.1, z6.2)) (m_X10_sets σ (z1 + x2)) else if (σ.1 0 41) = 1 then (if x4 = 0 then (fun (z9 : Int32 × eb_St) => (z9.1, z9.2)) (m_X10_sets σ (eb_lshl z1 x3)) else (fun (z10 : Int32 × eb_St) => (z10.1, z10.2)) (m_X10_illegal σ)) else if (σ.1 0 41) = 2 then (if x2 ≤ z1 then (fun (z13 : Int32 × eb_St) => (z13.1, z13.2)) (m_X10_sets σ 0) else (fun (z14 : Int32 × eb_St) => (z14.1, z14.2)) (m_X10_sets σ 1)) else if (σ.1 0 41) = 3 then (fun (z16 : Bool) => (if (eb_b z16) = 0 then (fun (z18 : Int32 × eb_St) => (z18.1, z18.2)) (m_X10_sets σ 0) else (fun (z19 : Int32 × eb_St) => (z19.1, z19.2)) (m_X10_sets σ 1))) (m_X10_isBelow z1 x2) else if (σ.1 0 41) = 4 then (fun (z21 : Int32 × eb_St) => (z21.1, z21.2)) (m_X10_sets σ (z1 ^^^ x2)) else if (σ.1 0 41) = 5 then (if x4 = 0 then (fun (z27 : Int32 × eb_St) => (z27.1, z27.2)) (m_X10_sets σ (eb_lushr z1 x3)) else (if x4 = 16 then (fun (z26 : Int32 × eb_St) => (z26.1, z26.2)) (m_X10_sets σ (eb_lshr z1 x3)) else (fun (z25 : Int32 × eb_St) => (z25.1, z25.2)) (m_X10_illegal σ))) else if (σ.1 0 41) = 6 then (fun (z29 : Int32 × eb_St) => (z29.1, z29.2)) (m_X10_sets σ (z1 ||| x2)) else (fun (z30 : Int32 × eb_St) => (z30.1, z30.2)) (m_X10_sets σ (z1 &&& x2)))) (eb_iushr (σ.1 0 37) 26)) (((σ.1 0 37) >>> (20 &&& 31)) &&& 63)) (((σ.1 0 37) >>> (20 &&& 31)).toInt64) = mm := by rw [qz1]; exact hm
  have hc : eb_M l yX10_x (Cond.code yX10_x cX10_x 2 (some .long) :: wsL_law) 1 20 D 18 cy rL ad σ [.ref (ad 0), .int (σ.1 0 39)] (some (.long z1)) σ := by rw [qz1]; exact c_X10_x l D cy ad σ (σ.1 0 39) hj_ hj_.2.2.2.1
  refine eb_callV (n := 1) (as := [.int (σ.1 0 39)]) (rest := []) X hw hl.1 0 hc (by decide) ⟨rfl, rfl, rfl⟩ (eb_goodV wi_33_4 wi_33_5 wi_33_6 wi_1_5 wi_33_7) rfl (by decide +kernel) ⟨by decide, by decide⟩ rfl rfl (Nat.le_of_ble_eq_true rfl) dX10_immediate_5 ⟨by decide, by decide⟩ (st' := [.long z1]) rfl (fun H locs hw => ?_)
  refine lv_lstore_n (lv' := [(1, .long z1), (0, .ref (ad 0))]) hx hb dX10_immediate_8 rfl hl (by decide) rfl (fun ls hl => ?_)
  refine lv_aload_n hx hb dX10_immediate_9 rfl (lv_at hl 1 rfl) ?_
  refine eb_get (T := TX10) X hw 0 37 (by decide) ⟨rfl, rfl, rfl⟩ (by decide) (fun _ h => List.mem_cons_of_mem _ (inlX10 _ h)) (List.mem_cons_of_mem _ wi_30_8) (v := .int (σ.1 0 37)) rfl dX10_immediate_10 ?_
  refine lv_bipush (v := 20) hx hb dX10_immediate_13 (by decide) ?_
  refine lv_ishr hx hb dX10_immediate_15 ?_
  refine lv_i2l (v := ((σ.1 0 37) >>> (20 &&& 31)).toInt64) hx hb dX10_immediate_16 rfl ?_
  refine lv_topl (fun x2 ex2 => ?_)
  have hm : (fun (x3 : Int32) => (fun (x4 : Int32) => (if (σ.1 0 41) = 0 then (fun (z6 : Int32 × eb_St) => (z6.1, z6.2)) (m_X10_sets σ (z1 + x2)) else if (σ.1 0 41) = 1 then (if x4 = 0 then (fun (z9 : Int32 × eb_St) => (z9.1, z9.2)) (m_X10_sets σ (eb_lshl z1 x3)) else (fun (z10 : Int32 × eb_St) => (z10.1, z10.2)) (m_X10_illegal σ)) else if (σ.1 0 41) = 2 then (if x2 ≤ z1 then (fun (z13 : Int32 × eb_St) => (z13.1, z13.2)) (m_X10_sets σ 0) else (fun (z14 : Int32 × eb_St) => (z14.1, z14.2)) (m_X10_sets σ 1)) else if (σ.1 0 41) = 3 then (fun (z16 : Bool) => (if (eb_b z16) = 0 then (fun (z18 : Int32 × eb_St) => (z18.1, z18.2)) (m_X10_sets σ 0) else (fun (z19 : Int32 × eb_St) => (z19.1, z19.2)) (m_X10_sets σ 1))) (m_X10_isBelow z1 x2) else if (σ.1 0 41) = 4 then (fun (z21 : Int32 × eb_St) => (z21.1, z21.2)) (m_X10_sets σ (z1 ^^^ x2)) else if (σ.1 0 41) = 5 then (if x4 = 0 then (fun (z27 : Int32 × eb_St) => (z27.1, z27.2)) (m_X10_sets σ (eb_lushr z1 x3)) else (if x4 = 16 then (fun (z26 : Int32 × eb_St) => (z26.1, z26.2)) (m_X10_sets σ (eb_lshr z1 x3)) else (fun (z25 : Int32 × eb_St) => (z25.1, z25.2)) (m_X10_illegal σ))) else if (σ.1 0 41) = 6 then (fun (z29 : Int32 × eb_St) => (z29.1, z29.2)) (m_X10_sets σ (z1 ||| x2)) else (fun (z30 : Int32 × eb_St) => (z30.1, z30.2)) (m_X10_sets σ (z1 &&& x2)))) (eb_iushr (σ.1 0 37) 26)) (((σ.1 0 37) >>> (20 &&& 31)) &&& 63) = mm := by rw [ex2]; exact hm
  refine lv_lstore_n (lv' := [(3, .long x2), (1, .long z1), (0, .ref (ad 0))]) hx hb dX10_immediate_17 rfl hl (by decide) rfl (fun ls hl => ?_)
  refine lv_aload_n hx hb dX10_immediate_18 rfl (lv_at hl 2 rfl) ?_
  refine eb_get (T := TX10) X hw 0 37 (by decide) ⟨rfl, rfl, rfl⟩ (by decide) (fun _ h => List.mem_cons_of_mem _ (inlX10 _ h)) (List.mem_cons_of_mem _ wi_30_8) (v := .int (σ.1 0 37)) rfl dX10_immediate_19 ?_
  refine lv_bipush (v := 20) hx hb dX10_immediate_22 (by decide) ?_
  refine lv_ishr hx hb dX10_immediate_24 ?_
  refine lv_bipush (v := 63) hx hb dX10_immediate_25 (by decide) ?_
  refine lv_iand hx hb dX10_immediate_27 ?_
  refine lv_topi (fun x3 ex3 => ?_)
  have hm : (fun (x4 : Int32) => (if (σ.1 0 41) = 0 then (fun (z6 : Int32 × eb_St) => (z6.1, z6.2)) (m_X10_sets σ (z1 + x2)) else if (σ.1 0 41) = 1 then (if x4 = 0 then (fun (z9 : Int32 × eb_St) => (z9.1, z9.2)) (m_X10_sets σ (eb_lshl z1 x3)) else (fun (z10 : Int32 × eb_St) => (z10.1, z10.2)) (m_X10_illegal σ)) else if (σ.1 0 41) = 2 then (if x2 ≤ z1 then (fun (z13 : Int32 × eb_St) => (z13.1, z13.2)) (m_X10_sets σ 0) else (fun (z14 : Int32 × eb_St) => (z14.1, z14.2)) (m_X10_sets σ 1)) else if (σ.1 0 41) = 3 then (fun (z16 : Bool) => (if (eb_b z16) = 0 then (fun (z18 : Int32 × eb_St) => (z18.1, z18.2)) (m_X10_sets σ 0) else (fun (z19 : Int32 × eb_St) => (z19.1, z19.2)) (m_X10_sets σ 1))) (m_X10_isBelow z1 x2) else if (σ.1 0 41) = 4 then (fun (z21 : Int32 × eb_St) => (z21.1, z21.2)) (m_X10_sets σ (z1 ^^^ x2)) else if (σ.1 0 41) = 5 then (if x4 = 0 then (fun (z27 : Int32 × eb_St) => (z27.1, z27.2)) (m_X10_sets σ (eb_lushr z1 x3)) else (if x4 = 16 then (fun (z26 : Int32 × eb_St) => (z26.1, z26.2)) (m_X10_sets σ (eb_lshr z1 x3)) else (fun (z25 : Int32 × eb_St) => (z25.1, z25.2)) (m_X10_illegal σ))) else if (σ.1 0 41) = 6 then (fun (z29 : Int32 × eb_St) => (z29.1, z29.2)) (m_X10_sets σ (z1 ||| x2)) else (fun (z30 : Int32 × eb_St) => (z30.1, z30.2)) (m_X10_sets σ (z1 &&& x2)))) (eb_iushr (σ.1 0 37) 26) = mm := by rw [ex3]; exact hm
  refine lv_istore (lv' := [(5, .int x3), (3, .long x2), (1, .long z1), (0, .ref (ad 0))]) hx hb dX10_immediate_28 hl (by decide) rfl (fun ls hl => ?_)
  refine lv_aload_n hx hb dX10_immediate_30 rfl (lv_at hl 3 rfl) ?_
  refine eb_get (T := TX10) X hw 0 37 (by decide) ⟨rfl, rfl, rfl⟩ (by decide) (fun _ h => List.mem_cons_of_mem _ (inlX10 _ h)) (List.mem_cons_of_mem _ wi_30_8) (v := .int (σ.1 0 37)) rfl dX10_immediate_31 ?_
  refine lv_bipush (v := 26) hx hb dX10_immediate_34 (by decide) ?_
  refine lv_iushr (v := eb_iushr (σ.1 0 37) 26) hx hb dX10_immediate_36 rfl ?_
  refine lv_topi (fun x4 ex4 => ?_)
  have hm : (if (σ.1 0 41) = 0 then (fun (z6 : Int32 × eb_St) => (z6.1, z6.2)) (m_X10_sets σ (z1 + x2)) else if (σ.1 0 41) = 1 then (if x4 = 0 then (fun (z9 : Int32 × eb_St) => (z9.1, z9.2)) (m_X10_sets σ (eb_lshl z1 x3)) else (fun (z10 : Int32 × eb_St) => (z10.1, z10.2)) (m_X10_illegal σ)) else if (σ.1 0 41) = 2 then (if x2 ≤ z1 then (fun (z13 : Int32 × eb_St) => (z13.1, z13.2)) (m_X10_sets σ 0) else (fun (z14 : Int32 × eb_St) => (z14.1, z14.2)) (m_X10_sets σ 1)) else if (σ.1 0 41) = 3 then (fun (z16 : Bool) => (if (eb_b z16) = 0 then (fun (z18 : Int32 × eb_St) => (z18.1, z18.2)) (m_X10_sets σ 0) else (fun (z19 : Int32 × eb_St) => (z19.1, z19.2)) (m_X10_sets σ 1))) (m_X10_isBelow z1 x2) else if (σ.1 0 41) = 4 then (fun (z21 : Int32 × eb_St) => (z21.1, z21.2)) (m_X10_sets σ (z1 ^^^ x2)) else if (σ.1 0 41) = 5 then (if x4 = 0 then (fun (z27 : Int32 × eb_St) => (z27.1, z27.2)) (m_X10_sets σ (eb_lushr z1 x3)) else (if x4 = 16 then (fun (z26 : Int32 × eb_St) => (z26.1, z26.2)) (m_X10_sets σ (eb_lshr z1 x3)) else (fun (z25 : Int32 × eb_St) => (z25.1, z25.2)) (m_X10_illegal σ))) else if (σ.1 0 41) = 6 then (fun (z29 : Int32 × eb_St) => (z29.1, z29.2)) (m_X10_sets σ (z1 ||| x2)) else (fun (z30 : Int32 × eb_St) => (z30.1, z30.2)) (m_X10_sets σ (z1 &&& x2))) = mm := by rw [ex4]; exact hm
  refine lv_istore (lv' := [(6, .int x4), (5, .int x3), (3, .long x2), (1, .long z1), (0, .ref (ad 0))]) hx hb dX10_immediate_37 hl (by decide) rfl (fun ls hl => ?_)
  refine lv_aload_n hx hb dX10_immediate_39 rfl (lv_at hl 4 rfl) ?_
  refine eb_get (T := TX10) X hw 0 41 (by decide) ⟨rfl, rfl, rfl⟩ (by decide) (fun _ h => List.mem_cons_of_mem _ (inlX10 _ h)) (List.mem_cons_of_mem _ wi_30_10) (v := .int (σ.1 0 41)) rfl dX10_immediate_40 ?_
  by_cases h5 : (σ.1 0 41) = 0
  · have hm := (if_pos h5).symm.trans hm
    refine lv_tableIn (off := 41) (tgt := 84) hx hb dX10_immediate_43 (by rw [h5]; decide) (by rw [h5]; decide) (by rw [h5]; rfl) (by decide) ?_
    refine lv_aload_n hx hb dX10_immediate_84 rfl (lv_at hl 4 rfl) ?_
    refine lv_lload_n hx hb dX10_immediate_85 rfl (lv_at hl 3 rfl) ?_
    refine lv_lload_n hx hb dX10_immediate_86 rfl (lv_at hl 2 rfl) ?_
    refine lv_ladd hx hb dX10_immediate_87 ?_
    obtain ⟨z6, qz6⟩ : ∃ t : Int32 × eb_St, t = m_X10_sets σ (z1 + x2) := ⟨_, rfl⟩
    have hm : (z6.1, z6.2) = mm := by rw [qz6]; exact hm
    have jz6 : rJ z6.2 := J_X10_sets qz6.symm hj_
    have hc : eb_M l yX10_sets (Cond.code yX10_sets cX10_sets 3 (some .int) :: wsL_law) 2 43 D 18 cy rL ad σ [.ref (ad 0), .long (z1 + x2)] (some (.int z6.1)) z6.2 := by rw [qz6]; exact c_X10_sets l D cy ad σ (z1 + x2) hj_
    refine eb_callV (n := 1) (as := [.long (z1 + x2)]) (rest := []) X hw hl.1 0 hc (by decide) ⟨rfl, rfl, rfl⟩ (eb_goodV wi_32_2 wi_32_3 wi_32_4 wi_1_5 wi_32_5) rfl (by decide +kernel) ⟨by decide, by decide⟩ rfl rfl (Nat.le_of_ble_eq_true rfl) dX10_immediate_88 ⟨by decide, by decide⟩ (st' := [.int z6.1]) rfl (fun H locs hw => ?_)
    subst hm
    exact eb_iret X hw rfl rfl rfl dX10_immediate_91
  · have hm := (if_neg h5).symm.trans hm
    by_cases h7 : (σ.1 0 41) = 1
    · have hm := (if_pos h7).symm.trans hm
      refine lv_tableIn (off := 49) (tgt := 92) hx hb dX10_immediate_43 (by rw [h7]; decide) (by rw [h7]; decide) (by rw [h7]; rfl) (by decide) ?_
      refine lv_iload hx hb dX10_immediate_92 (lv_at hl 0 rfl) ?_
      refine lv_if_eq (tgt := 104) hx hb dX10_immediate_94 (by decide) (fun h8 => ?_) (fun h8 => ?_)
      · have hm := (if_pos h8).symm.trans hm
        refine lv_aload_n hx hb dX10_immediate_104 rfl (lv_at hl 4 rfl) ?_
        refine lv_lload_n hx hb dX10_immediate_105 rfl (lv_at hl 3 rfl) ?_
        refine lv_iload hx hb dX10_immediate_106 (lv_at hl 1 rfl) ?_
        refine lv_lshl (v := eb_lshl z1 x3) hx hb dX10_immediate_108 rfl ?_
        obtain ⟨z9, qz9⟩ : ∃ t : Int32 × eb_St, t = m_X10_sets σ (eb_lshl z1 x3) := ⟨_, rfl⟩
        have hm : (z9.1, z9.2) = mm := by rw [qz9]; exact hm
        have jz9 : rJ z9.2 := J_X10_sets qz9.symm hj_
        have hc : eb_M l yX10_sets (Cond.code yX10_sets cX10_sets 3 (some .int) :: wsL_law) 2 43 D 18 cy rL ad σ [.ref (ad 0), .long (eb_lshl z1 x3)] (some (.int z9.1)) z9.2 := by rw [qz9]; exact c_X10_sets l D cy ad σ (eb_lshl z1 x3) hj_
        refine eb_callV (n := 1) (as := [.long (eb_lshl z1 x3)]) (rest := []) X hw hl.1 0 hc (by decide) ⟨rfl, rfl, rfl⟩ (eb_goodV wi_32_2 wi_32_3 wi_32_4 wi_1_5 wi_32_5) rfl (by decide +kernel) ⟨by decide, by decide⟩ rfl rfl (Nat.le_of_ble_eq_true rfl) dX10_immediate_109 ⟨by decide, by decide⟩ (st' := [.int z9.1]) rfl (fun H locs hw => ?_)
        subst hm
        exact eb_iret X hw rfl rfl rfl dX10_immediate_112
      · have hm := (if_neg h8).symm.trans hm
        refine lv_aload_n hx hb dX10_immediate_97 rfl (lv_at hl 4 rfl) ?_
        obtain ⟨z10, qz10⟩ : ∃ t : Int32 × eb_St, t = m_X10_illegal σ := ⟨_, rfl⟩
        have hm : (z10.1, z10.2) = mm := by rw [qz10]; exact hm
        have jz10 : rJ z10.2 := J_X10_illegal qz10.symm hj_
        have hc : eb_M l yX10_illegal (Cond.code yX10_illegal cX10_illegal 1 (some .int) :: wsL_law) 1 23 D 18 cy rL ad σ [.ref (ad 0)] (some (.int z10.1)) z10.2 := by rw [qz10]; exact c_X10_illegal l D cy ad σ hj_
        refine eb_callV (n := 0) (as := []) (rest := []) X hw hl.1 0 hc (by decide) ⟨rfl, rfl, rfl⟩ (eb_goodV wi_32_23 wi_33_0 wi_33_1 wi_1_5 wi_33_2) rfl (by decide +kernel) ⟨by decide, by decide⟩ rfl rfl (Nat.le_of_ble_eq_true rfl) dX10_immediate_98 ⟨by decide, by decide⟩ (st' := [.int z10.1]) rfl (fun H locs hw => ?_)
        refine lv_goto (tgt := 112) hx hb dX10_immediate_101 (by decide) ?_
        subst hm
        exact eb_iret X hw rfl rfl rfl dX10_immediate_112
    · have hm := (if_neg h7).symm.trans hm
      by_cases h11 : (σ.1 0 41) = 2
      · have hm := (if_pos h11).symm.trans hm
        refine lv_tableIn (off := 70) (tgt := 113) hx hb dX10_immediate_43 (by rw [h11]; decide) (by rw [h11]; decide) (by rw [h11]; rfl) (by decide) ?_
        refine lv_aload_n hx hb dX10_immediate_113 rfl (lv_at hl 4 rfl) ?_
        refine lv_lload_n hx hb dX10_immediate_114 rfl (lv_at hl 3 rfl) ?_
        refine lv_lload_n hx hb dX10_immediate_115 rfl (lv_at hl 2 rfl) ?_
        refine eb_lif_ge (tgt := 124) hx hb dX10_immediate_116 dX10_immediate_117 (by decide) (fun h12 => ?_) (fun h12 => ?_)
        · have hm := (if_pos h12).symm.trans hm
          refine lv_lconst (v := 0) hx hb dX10_immediate_124 (by decide) ?_
          obtain ⟨z13, qz13⟩ : ∃ t : Int32 × eb_St, t = m_X10_sets σ 0 := ⟨_, rfl⟩
          have hm : (z13.1, z13.2) = mm := by rw [qz13]; exact hm
          have jz13 : rJ z13.2 := J_X10_sets qz13.symm hj_
          have hc : eb_M l yX10_sets (Cond.code yX10_sets cX10_sets 3 (some .int) :: wsL_law) 2 43 D 18 cy rL ad σ [.ref (ad 0), .long 0] (some (.int z13.1)) z13.2 := by rw [qz13]; exact c_X10_sets l D cy ad σ 0 hj_
          refine eb_callV (n := 1) (as := [.long 0]) (rest := []) X hw hl.1 0 hc (by decide) ⟨rfl, rfl, rfl⟩ (eb_goodV wi_32_2 wi_32_3 wi_32_4 wi_1_5 wi_32_5) rfl (by decide +kernel) ⟨by decide, by decide⟩ rfl rfl (Nat.le_of_ble_eq_true rfl) dX10_immediate_125 ⟨by decide, by decide⟩ (st' := [.int z13.1]) rfl (fun H locs hw => ?_)
          subst hm
          exact eb_iret X hw rfl rfl rfl dX10_immediate_128
        · have hm := (if_neg h12).symm.trans hm
          refine lv_lconst (v := 1) hx hb dX10_immediate_120 (by decide) ?_
          refine lv_goto (tgt := 125) hx hb dX10_immediate_121 (by decide) ?_
          obtain ⟨z14, qz14⟩ : ∃ t : Int32 × eb_St, t = m_X10_sets σ 1 := ⟨_, rfl⟩
          have hm : (z14.1, z14.2) = mm := by rw [qz14]; exact hm
          have jz14 : rJ z14.2 := J_X10_sets qz14.symm hj_
          have hc : eb_M l yX10_sets (Cond.code yX10_sets cX10_sets 3 (some .int) :: wsL_law) 2 43 D 18 cy rL ad σ [.ref (ad 0), .long 1] (some (.int z14.1)) z14.2 := by rw [qz14]; exact c_X10_sets l D cy ad σ 1 hj_
          refine eb_callV (n := 1) (as := [.long 1]) (rest := []) X hw hl.1 0 hc (by decide) ⟨rfl, rfl, rfl⟩ (eb_goodV wi_32_2 wi_32_3 wi_32_4 wi_1_5 wi_32_5) rfl (by decide +kernel) ⟨by decide, by decide⟩ rfl rfl (Nat.le_of_ble_eq_true rfl) dX10_immediate_125 ⟨by decide, by decide⟩ (st' := [.int z14.1]) rfl (fun H locs hw => ?_)
          subst hm
          exact eb_iret X hw rfl rfl rfl dX10_immediate_128
      · have hm := (if_neg h11).symm.trans hm
        by_cases h15 : (σ.1 0 41) = 3
        · have hm := (if_pos h15).symm.trans hm
          refine lv_tableIn (off := 86) (tgt := 129) hx hb dX10_immediate_43 (by rw [h15]; decide) (by rw [h15]; decide) (by rw [h15]; rfl) (by decide) ?_
          refine lv_aload_n hx hb dX10_immediate_129 rfl (lv_at hl 4 rfl) ?_
          refine lv_lload_n hx hb dX10_immediate_130 rfl (lv_at hl 3 rfl) ?_
          refine lv_lload_n hx hb dX10_immediate_131 rfl (lv_at hl 2 rfl) ?_
          obtain ⟨z16, qz16⟩ : ∃ t : Bool, t = m_X10_isBelow z1 x2 := ⟨_, rfl⟩
          have hm : (if (eb_b z16) = 0 then (fun (z18 : Int32 × eb_St) => (z18.1, z18.2)) (m_X10_sets σ 0) else (fun (z19 : Int32 × eb_St) => (z19.1, z19.2)) (m_X10_sets σ 1)) = mm := by rw [qz16]; exact hm
          have hc : eb_M l yX10_isBelow (Cond.code yX10_isBelow cX10_isBelow 4 (some .boolean) :: wsL_law) 0 0 D 18 cy rL ad σ [.long z1, .long x2] (some (.int (eb_b z16))) σ := by rw [qz16]; exact c_X10_isBelow l D cy ad σ z1 x2
          refine eb_callS (n := 2) X hw hl.1 (rest := [.ref (ad 0)]) hc (eb_goodS wi_33_12 wi_33_13 wi_1_5 wi_33_14) rfl (by decide +kernel) ⟨by decide, by decide⟩ rfl rfl (Nat.le_of_ble_eq_true rfl) dX10_immediate_132 ⟨by decide, by decide⟩ (st' := [.int (eb_b z16), .ref (ad 0)]) rfl (fun H locs hw => ?_)
          refine lv_if_eq (tgt := 142) hx hb dX10_immediate_135 (by decide) (fun h17 => ?_) (fun h17 => ?_)
          · have hm := (if_pos h17).symm.trans hm
            refine lv_lconst (v := 0) hx hb dX10_immediate_142 (by decide) ?_
            obtain ⟨z18, qz18⟩ : ∃ t : Int32 × eb_St, t = m_X10_sets σ 0 := ⟨_, rfl⟩
            have hm : (z18.1, z18.2) = mm := by rw [qz18]; exact hm
            have jz18 : rJ z18.2 := J_X10_sets qz18.symm hj_
            have hc : eb_M l yX10_sets (Cond.code yX10_sets cX10_sets 3 (some .int) :: wsL_law) 2 43 D 18 cy rL ad σ [.ref (ad 0), .long 0] (some (.int z18.1)) z18.2 := by rw [qz18]; exact c_X10_sets l D cy ad σ 0 hj_
            refine eb_callV (n := 1) (as := [.long 0]) (rest := []) X hw hl.1 0 hc (by decide) ⟨rfl, rfl, rfl⟩ (eb_goodV wi_32_2 wi_32_3 wi_32_4 wi_1_5 wi_32_5) rfl (by decide +kernel) ⟨by decide, by decide⟩ rfl rfl (Nat.le_of_ble_eq_true rfl) dX10_immediate_143 ⟨by decide, by decide⟩ (st' := [.int z18.1]) rfl (fun H locs hw => ?_)
            subst hm
            exact eb_iret X hw rfl rfl rfl dX10_immediate_146
          · have hm := (if_neg h17).symm.trans hm
            refine lv_lconst (v := 1) hx hb dX10_immediate_138 (by decide) ?_
            refine lv_goto (tgt := 143) hx hb dX10_immediate_139 (by decide) ?_
            obtain ⟨z19, qz19⟩ : ∃ t : Int32 × eb_St, t = m_X10_sets σ 1 := ⟨_, rfl⟩
            have hm : (z19.1, z19.2) = mm := by rw [qz19]; exact hm
            have jz19 : rJ z19.2 := J_X10_sets qz19.symm hj_
            have hc : eb_M l yX10_sets (Cond.code yX10_sets cX10_sets 3 (some .int) :: wsL_law) 2 43 D 18 cy rL ad σ [.ref (ad 0), .long 1] (some (.int z19.1)) z19.2 := by rw [qz19]; exact c_X10_sets l D cy ad σ 1 hj_
            refine eb_callV (n := 1) (as := [.long 1]) (rest := []) X hw hl.1 0 hc (by decide) ⟨rfl, rfl, rfl⟩ (eb_goodV wi_32_2 wi_32_3 wi_32_4 wi_1_5 wi_32_5) rfl (by decide +kernel) ⟨by decide, by decide⟩ rfl rfl (Nat.le_of_ble_eq_true rfl) dX10_immediate_143 ⟨by decide, by decide⟩ (st' := [.int z19.1]) rfl (fun H locs hw => ?_)
            subst hm
            exact eb_iret X hw rfl rfl rfl dX10_immediate_146
        · have hm := (if_neg h15).symm.trans hm
          by_cases h20 : (σ.1 0 41) = 4
          · have hm := (if_pos h20).symm.trans hm
            refine lv_tableIn (off := 104) (tgt := 147) hx hb dX10_immediate_43 (by rw [h20]; decide) (by rw [h20]; decide) (by rw [h20]; rfl) (by decide) ?_
            refine lv_aload_n hx hb dX10_immediate_147 rfl (lv_at hl 4 rfl) ?_
            refine lv_lload_n hx hb dX10_immediate_148 rfl (lv_at hl 3 rfl) ?_
            refine lv_lload_n hx hb dX10_immediate_149 rfl (lv_at hl 2 rfl) ?_
            refine lv_lxor hx hb dX10_immediate_150 ?_
            obtain ⟨z21, qz21⟩ : ∃ t : Int32 × eb_St, t = m_X10_sets σ (z1 ^^^ x2) := ⟨_, rfl⟩
            have hm : (z21.1, z21.2) = mm := by rw [qz21]; exact hm
            have jz21 : rJ z21.2 := J_X10_sets qz21.symm hj_
            have hc : eb_M l yX10_sets (Cond.code yX10_sets cX10_sets 3 (some .int) :: wsL_law) 2 43 D 18 cy rL ad σ [.ref (ad 0), .long (z1 ^^^ x2)] (some (.int z21.1)) z21.2 := by rw [qz21]; exact c_X10_sets l D cy ad σ (z1 ^^^ x2) hj_
            refine eb_callV (n := 1) (as := [.long (z1 ^^^ x2)]) (rest := []) X hw hl.1 0 hc (by decide) ⟨rfl, rfl, rfl⟩ (eb_goodV wi_32_2 wi_32_3 wi_32_4 wi_1_5 wi_32_5) rfl (by decide +kernel) ⟨by decide, by decide⟩ rfl rfl (Nat.le_of_ble_eq_true rfl) dX10_immediate_151 ⟨by decide, by decide⟩ (st' := [.int z21.1]) rfl (fun H locs hw => ?_)
            subst hm
            exact eb_iret X hw rfl rfl rfl dX10_immediate_154
          · have hm := (if_neg h20).symm.trans hm
            by_cases h22 : (σ.1 0 41) = 5
            · have hm := (if_pos h22).symm.trans hm
              refine lv_tableIn (off := 112) (tgt := 155) hx hb dX10_immediate_43 (by rw [h22]; decide) (by rw [h22]; decide) (by rw [h22]; rfl) (by decide) ?_
              refine lv_iload hx hb dX10_immediate_155 (lv_at hl 0 rfl) ?_
              refine lv_if_ne (tgt := 171) hx hb dX10_immediate_157 (by decide) (fun h23 => ?_) (fun h23 => ?_)
              · have hm := (if_neg h23).symm.trans hm
                refine lv_iload hx hb dX10_immediate_171 (lv_at hl 0 rfl) ?_
                refine lv_bipush (v := 16) hx hb dX10_immediate_173 (by decide) ?_
                refine lv_icmp_ne (tgt := 189) hx hb dX10_immediate_175 (by decide) (fun h24 => ?_) (fun h24 => ?_)
                · have hm := (if_neg h24).symm.trans hm
                  refine lv_aload_n hx hb dX10_immediate_189 rfl (lv_at hl 4 rfl) ?_
                  obtain ⟨z25, qz25⟩ : ∃ t : Int32 × eb_St, t = m_X10_illegal σ := ⟨_, rfl⟩
                  have hm : (z25.1, z25.2) = mm := by rw [qz25]; exact hm
                  have jz25 : rJ z25.2 := J_X10_illegal qz25.symm hj_
                  have hc : eb_M l yX10_illegal (Cond.code yX10_illegal cX10_illegal 1 (some .int) :: wsL_law) 1 23 D 18 cy rL ad σ [.ref (ad 0)] (some (.int z25.1)) z25.2 := by rw [qz25]; exact c_X10_illegal l D cy ad σ hj_
                  refine eb_callV (n := 0) (as := []) (rest := []) X hw hl.1 0 hc (by decide) ⟨rfl, rfl, rfl⟩ (eb_goodV wi_32_23 wi_33_0 wi_33_1 wi_1_5 wi_33_2) rfl (by decide +kernel) ⟨by decide, by decide⟩ rfl rfl (Nat.le_of_ble_eq_true rfl) dX10_immediate_190 ⟨by decide, by decide⟩ (st' := [.int z25.1]) rfl (fun H locs hw => ?_)
                  subst hm
                  exact eb_iret X hw rfl rfl rfl dX10_immediate_193
                · have hm := (if_pos h24).symm.trans hm
                  refine lv_aload_n hx hb dX10_immediate_178 rfl (lv_at hl 4 rfl) ?_
                  refine lv_lload_n hx hb dX10_immediate_179 rfl (lv_at hl 3 rfl) ?_
                  refine lv_iload hx hb dX10_immediate_180 (lv_at hl 1 rfl) ?_
                  refine lv_lshr (v := eb_lshr z1 x3) hx hb dX10_immediate_182 rfl ?_
                  obtain ⟨z26, qz26⟩ : ∃ t : Int32 × eb_St, t = m_X10_sets σ (eb_lshr z1 x3) := ⟨_, rfl⟩
                  have hm : (z26.1, z26.2) = mm := by rw [qz26]; exact hm
                  have jz26 : rJ z26.2 := J_X10_sets qz26.symm hj_
                  have hc : eb_M l yX10_sets (Cond.code yX10_sets cX10_sets 3 (some .int) :: wsL_law) 2 43 D 18 cy rL ad σ [.ref (ad 0), .long (eb_lshr z1 x3)] (some (.int z26.1)) z26.2 := by rw [qz26]; exact c_X10_sets l D cy ad σ (eb_lshr z1 x3) hj_
                  refine eb_callV (n := 1) (as := [.long (eb_lshr z1 x3)]) (rest := []) X hw hl.1 0 hc (by decide) ⟨rfl, rfl, rfl⟩ (eb_goodV wi_32_2 wi_32_3 wi_32_4 wi_1_5 wi_32_5) rfl (by decide +kernel) ⟨by decide, by decide⟩ rfl rfl (Nat.le_of_ble_eq_true rfl) dX10_immediate_183 ⟨by decide, by decide⟩ (st' := [.int z26.1]) rfl (fun H locs hw => ?_)
                  refine lv_goto (tgt := 193) hx hb dX10_immediate_186 (by decide) ?_
                  subst hm
                  exact eb_iret X hw rfl rfl rfl dX10_immediate_193
              · have hm := (if_pos h23).symm.trans hm
                refine lv_aload_n hx hb dX10_immediate_160 rfl (lv_at hl 4 rfl) ?_
                refine lv_lload_n hx hb dX10_immediate_161 rfl (lv_at hl 3 rfl) ?_
                refine lv_iload hx hb dX10_immediate_162 (lv_at hl 1 rfl) ?_
                refine lv_lushr (v := eb_lushr z1 x3) hx hb dX10_immediate_164 rfl ?_
                obtain ⟨z27, qz27⟩ : ∃ t : Int32 × eb_St, t = m_X10_sets σ (eb_lushr z1 x3) := ⟨_, rfl⟩
                have hm : (z27.1, z27.2) = mm := by rw [qz27]; exact hm
                have jz27 : rJ z27.2 := J_X10_sets qz27.symm hj_
                have hc : eb_M l yX10_sets (Cond.code yX10_sets cX10_sets 3 (some .int) :: wsL_law) 2 43 D 18 cy rL ad σ [.ref (ad 0), .long (eb_lushr z1 x3)] (some (.int z27.1)) z27.2 := by rw [qz27]; exact c_X10_sets l D cy ad σ (eb_lushr z1 x3) hj_
                refine eb_callV (n := 1) (as := [.long (eb_lushr z1 x3)]) (rest := []) X hw hl.1 0 hc (by decide) ⟨rfl, rfl, rfl⟩ (eb_goodV wi_32_2 wi_32_3 wi_32_4 wi_1_5 wi_32_5) rfl (by decide +kernel) ⟨by decide, by decide⟩ rfl rfl (Nat.le_of_ble_eq_true rfl) dX10_immediate_165 ⟨by decide, by decide⟩ (st' := [.int z27.1]) rfl (fun H locs hw => ?_)
                refine lv_goto (tgt := 193) hx hb dX10_immediate_168 (by decide) ?_
                subst hm
                exact eb_iret X hw rfl rfl rfl dX10_immediate_193
            · have hm := (if_neg h22).symm.trans hm
              by_cases h28 : (σ.1 0 41) = 6
              · have hm := (if_pos h28).symm.trans hm
                refine lv_tableIn (off := 151) (tgt := 194) hx hb dX10_immediate_43 (by rw [h28]; decide) (by rw [h28]; decide) (by rw [h28]; rfl) (by decide) ?_
                refine lv_aload_n hx hb dX10_immediate_194 rfl (lv_at hl 4 rfl) ?_
                refine lv_lload_n hx hb dX10_immediate_195 rfl (lv_at hl 3 rfl) ?_
                refine lv_lload_n hx hb dX10_immediate_196 rfl (lv_at hl 2 rfl) ?_
                refine lv_lor hx hb dX10_immediate_197 ?_
                obtain ⟨z29, qz29⟩ : ∃ t : Int32 × eb_St, t = m_X10_sets σ (z1 ||| x2) := ⟨_, rfl⟩
                have hm : (z29.1, z29.2) = mm := by rw [qz29]; exact hm
                have jz29 : rJ z29.2 := J_X10_sets qz29.symm hj_
                have hc : eb_M l yX10_sets (Cond.code yX10_sets cX10_sets 3 (some .int) :: wsL_law) 2 43 D 18 cy rL ad σ [.ref (ad 0), .long (z1 ||| x2)] (some (.int z29.1)) z29.2 := by rw [qz29]; exact c_X10_sets l D cy ad σ (z1 ||| x2) hj_
                refine eb_callV (n := 1) (as := [.long (z1 ||| x2)]) (rest := []) X hw hl.1 0 hc (by decide) ⟨rfl, rfl, rfl⟩ (eb_goodV wi_32_2 wi_32_3 wi_32_4 wi_1_5 wi_32_5) rfl (by decide +kernel) ⟨by decide, by decide⟩ rfl rfl (Nat.le_of_ble_eq_true rfl) dX10_immediate_198 ⟨by decide, by decide⟩ (st' := [.int z29.1]) rfl (fun H locs hw => ?_)
                subst hm
                exact eb_iret X hw rfl rfl rfl dX10_immediate_201
              · have hm := (if_neg h28).symm.trans hm
                refine lv_tableOut (tgt := 202) hx hb dX10_immediate_43 (by have qh5 := lv_neT h5 (a := 0) (by decide); have qh7 := lv_neT h7 (a := 1) (by decide); have qh11 := lv_neT h11 (a := 2) (by decide); have qh15 := lv_neT h15 (a := 3) (by decide); have qh20 := lv_neT h20 (a := 4) (by decide); have qh22 := lv_neT h22 (a := 5) (by decide); have qh28 := lv_neT h28 (a := 6) (by decide); omega) (by decide) ?_
                refine lv_aload_n hx hb dX10_immediate_202 rfl (lv_at hl 4 rfl) ?_
                refine lv_lload_n hx hb dX10_immediate_203 rfl (lv_at hl 3 rfl) ?_
                refine lv_lload_n hx hb dX10_immediate_204 rfl (lv_at hl 2 rfl) ?_
                refine lv_land hx hb dX10_immediate_205 ?_
                obtain ⟨z30, qz30⟩ : ∃ t : Int32 × eb_St, t = m_X10_sets σ (z1 &&& x2) := ⟨_, rfl⟩
                have hm : (z30.1, z30.2) = mm := by rw [qz30]; exact hm
                have jz30 : rJ z30.2 := J_X10_sets qz30.symm hj_
                have hc : eb_M l yX10_sets (Cond.code yX10_sets cX10_sets 3 (some .int) :: wsL_law) 2 43 D 18 cy rL ad σ [.ref (ad 0), .long (z1 &&& x2)] (some (.int z30.1)) z30.2 := by rw [qz30]; exact c_X10_sets l D cy ad σ (z1 &&& x2) hj_
                refine eb_callV (n := 1) (as := [.long (z1 &&& x2)]) (rest := []) X hw hl.1 0 hc (by decide) ⟨rfl, rfl, rfl⟩ (eb_goodV wi_32_2 wi_32_3 wi_32_4 wi_1_5 wi_32_5) rfl (by decide +kernel) ⟨by decide, by decide⟩ rfl rfl (Nat.le_of_ble_eq_true rfl) dX10_immediate_206 ⟨by decide, by decide⟩ (st' := [.int z30.1]) rfl (fun H locs hw => ?_)
                subst hm
                exact eb_iret X hw rfl rfl rfl dX10_immediate_209

theorem J_X10_immediateW_86 {σ : eb_St} {v1 : Int32} {mm : Int32 × eb_St} (hm : (m_X10_immediateW_86  σ v1) = mm) (hj_ : rJ σ) : rJ mm.2 := by
  have hm : (if (σ.1 0 41) = 5 then (if (σ.1 0 42) = 32 then (fun (z15 : Int32 × eb_St) => (z15.1, z15.2)) (m_X10_sets σ ((v1 >>> ((σ.1 0 40) &&& 31)).toInt64)) else (fun (z14 : Int32 × eb_St) => (z14.1, z14.2)) (m_X10_illegal σ)) else (fun (z12 : Int32 × eb_St) => (z12.1, z12.2)) (m_X10_illegal σ)) = mm := hm
  refine eb_emn (c := (σ.1 0 41) = 5) (fun h11 => ?_) (fun h11 => ?_)
  · have hm := (if_neg h11).symm.trans hm
    obtain ⟨z12, qz12⟩ : ∃ t : Int32 × eb_St, t = m_X10_illegal σ := ⟨_, rfl⟩
    have hm : (z12.1, z12.2) = mm := by rw [qz12]; exact hm
    have jz12 : rJ z12.2 := J_X10_illegal qz12.symm hj_
    subst hm
    exact jz12
  · have hm := (if_pos h11).symm.trans hm
    refine eb_emn (c := (σ.1 0 42) = 32) (fun h13 => ?_) (fun h13 => ?_)
    · have hm := (if_neg h13).symm.trans hm
      obtain ⟨z14, qz14⟩ : ∃ t : Int32 × eb_St, t = m_X10_illegal σ := ⟨_, rfl⟩
      have hm : (z14.1, z14.2) = mm := by rw [qz14]; exact hm
      have jz14 : rJ z14.2 := J_X10_illegal qz14.symm hj_
      subst hm
      exact jz14
    · have hm := (if_pos h13).symm.trans hm
      obtain ⟨z15, qz15⟩ : ∃ t : Int32 × eb_St, t = m_X10_sets σ ((v1 >>> ((σ.1 0 40) &&& 31)).toInt64) := ⟨_, rfl⟩
      have hm : (z15.1, z15.2) = mm := by rw [qz15]; exact hm
      have jz15 : rJ z15.2 := J_X10_sets qz15.symm hj_
      subst hm
      exact jz15
theorem J_X10_immediateW_59 {σ : eb_St} {v1 : Int32} {mm : Int32 × eb_St} (hm : (m_X10_immediateW_59  σ v1) = mm) (hj_ : rJ σ) : rJ mm.2 := by
  have hm : (if (σ.1 0 41) = 5 then (if (σ.1 0 42) = 0 then (fun (z10 : Int32 × eb_St) => (z10.1, z10.2)) (m_X10_sets σ ((eb_iushr v1 (σ.1 0 40)).toInt64)) else m_X10_immediateW_86  σ v1) else m_X10_immediateW_86  σ v1) = mm := hm
  refine eb_emn (c := (σ.1 0 41) = 5) (fun h8 => ?_) (fun h8 => ?_)
  · have hm := (if_neg h8).symm.trans hm
    exact J_X10_immediateW_86 hm hj_
  · have hm := (if_pos h8).symm.trans hm
    refine eb_emn (c := (σ.1 0 42) = 0) (fun h9 => ?_) (fun h9 => ?_)
    · have hm := (if_neg h9).symm.trans hm
      exact J_X10_immediateW_86 hm hj_
    · have hm := (if_pos h9).symm.trans hm
      obtain ⟨z10, qz10⟩ : ∃ t : Int32 × eb_St, t = m_X10_sets σ ((eb_iushr v1 (σ.1 0 40)).toInt64) := ⟨_, rfl⟩
      have hm : (z10.1, z10.2) = mm := by rw [qz10]; exact hm
      have jz10 : rJ z10.2 := J_X10_sets qz10.symm hj_
      subst hm
      exact jz10
theorem J_X10_immediateW {σ : eb_St}  {mm : Int32 × eb_St} (hm : m_X10_immediateW σ = mm) (hj_ : rJ σ) : rJ mm.2 := by
  have hm : (fun (z1 : Int64) => (fun (x2 : Int32) => (if (σ.1 0 41) = 0 then (fun (z7 : Int32 × eb_St) => (z7.1, z7.2)) (m_X10_sets σ ((x2 + ((σ.1 0 37) >>> (20 &&& 31))).toInt64)) else (if (σ.1 0 41) = 1 then (if (σ.1 0 42) = 0 then (fun (z6 : Int32 × eb_St) => (z6.1, z6.2)) (m_X10_sets σ ((x2 <<< ((σ.1 0 40) &&& 31)).toInt64)) else m_X10_immediateW_59  σ x2) else m_X10_immediateW_59  σ x2))) (z1.toInt32)) (m_X10_x σ (σ.1 0 39)) = mm := hm
  obtain ⟨z1, qz1⟩ : ∃ t : Int64, t = m_X10_x σ (σ.1 0 39) := ⟨_, rfl⟩
  have hm : (fun (x2 : Int32) => (if (σ.1 0 41) = 0 then (fun (z7 : Int32 × eb_St) => (z7.1, z7.2)) (m_X10_sets σ ((x2 + ((σ.1 0 37) >>> (20 &&& 31))).toInt64)) else (if (σ.1 0 41) = 1 then (if (σ.1 0 42) = 0 then (fun (z6 : Int32 × eb_St) => (z6.1, z6.2)) (m_X10_sets σ ((x2 <<< ((σ.1 0 40) &&& 31)).toInt64)) else m_X10_immediateW_59  σ x2) else m_X10_immediateW_59  σ x2))) (z1.toInt32) = mm := by rw [qz1]; exact hm
  obtain ⟨x2, ex2⟩ : ∃ z : Int32, z = z1.toInt32 := ⟨_, rfl⟩
  have hm : (if (σ.1 0 41) = 0 then (fun (z7 : Int32 × eb_St) => (z7.1, z7.2)) (m_X10_sets σ ((x2 + ((σ.1 0 37) >>> (20 &&& 31))).toInt64)) else (if (σ.1 0 41) = 1 then (if (σ.1 0 42) = 0 then (fun (z6 : Int32 × eb_St) => (z6.1, z6.2)) (m_X10_sets σ ((x2 <<< ((σ.1 0 40) &&& 31)).toInt64)) else m_X10_immediateW_59  σ x2) else m_X10_immediateW_59  σ x2)) = mm := by rw [ex2]; exact hm
  refine eb_emn (c := (σ.1 0 41) = 0) (fun h3 => ?_) (fun h3 => ?_)
  · have hm := (if_neg h3).symm.trans hm
    refine eb_emn (c := (σ.1 0 41) = 1) (fun h4 => ?_) (fun h4 => ?_)
    · have hm := (if_neg h4).symm.trans hm
      exact J_X10_immediateW_59 hm hj_
    · have hm := (if_pos h4).symm.trans hm
      refine eb_emn (c := (σ.1 0 42) = 0) (fun h5 => ?_) (fun h5 => ?_)
      · have hm := (if_neg h5).symm.trans hm
        exact J_X10_immediateW_59 hm hj_
      · have hm := (if_pos h5).symm.trans hm
        obtain ⟨z6, qz6⟩ : ∃ t : Int32 × eb_St, t = m_X10_sets σ ((x2 <<< ((σ.1 0 40) &&& 31)).toInt64) := ⟨_, rfl⟩
        have hm : (z6.1, z6.2) = mm := by rw [qz6]; exact hm
        have jz6 : rJ z6.2 := J_X10_sets qz6.symm hj_
        subst hm
        exact jz6
  · have hm := (if_pos h3).symm.trans hm
    obtain ⟨z7, qz7⟩ : ∃ t : Int32 × eb_St, t = m_X10_sets σ ((x2 + ((σ.1 0 37) >>> (20 &&& 31))).toInt64) := ⟨_, rfl⟩
    have hm : (z7.1, z7.2) = mm := by rw [qz7]; exact hm
    have jz7 : rJ z7.2 := J_X10_sets qz7.symm hj_
    subst hm
    exact jz7
set_option maxHeartbeats 4000000 in
set_option maxRecDepth 100000 in
theorem k_X10_immediateW_86 {p : Program} {l : Launch} {e : Env} {s : State} {m : MethodId} {args : Array Value} {below : List Frame} {meth : Method} {c : Code} {A : Nat → Prop} {H : Heap} {locs : List Loc} {ls : Array Slot} {D : va_G} {cy : Nat → ClassId} {ad : Nat → Nat} (X : eb_X p s m args meth c cX10_immediateW 2 RX10 (Cond.code yX10_immediateW cX10_immediateW 2 (some .int) :: wsL_law) (some .int) D cy A)   (σ : eb_St) (v1 : Int32) (hj_ : rJ σ) {mm : Int32 × eb_St} (hm : (m_X10_immediateW_86  σ v1) = mm) (hw : eb_H D 18 cy rL ad A s.heap σ H locs) (hl : lv_has ls 2 [(0, .ref (ad 0)), (1, .int v1)]) : W p l e ({ frames := 3, cells := 0, slots := 0, locals := 65 } : Room) s m args below meth c H locs 0 0 (MQ below (eb_Q D 18 cy rL ad A (some (.int mm.1)) mm.2) args s 0 0 A) (F0 m 86 ls []) := by
  have hx := X.1.1
  have hb := X.1.2.1
  have hown := X.1.2.2.2.1
  have hts := X.1.2.2.2.2
  have hm : (if (σ.1 0 41) = 5 then (if (σ.1 0 42) = 32 then (fun (z15 : Int32 × eb_St) => (z15.1, z15.2)) (m_X10_sets σ ((v1 >>> ((σ.1 0 40) &&& 31)).toInt64)) else (fun (z14 : Int32 × eb_St) => (z14.1, z14.2)) (m_X10_illegal σ)) else (fun (z12 : Int32 × eb_St) => (z12.1, z12.2)) (m_X10_illegal σ)) = mm := hm
  refine lv_aload_n hx hb dX10_immediateW_86 rfl (lv_at hl 0 rfl) ?_
  refine eb_get (T := TX10) X hw 0 41 (by decide) ⟨rfl, rfl, rfl⟩ (by decide) (fun _ h => List.mem_cons_of_mem _ (inlX10 _ h)) (List.mem_cons_of_mem _ wi_30_10) (v := .int (σ.1 0 41)) rfl dX10_immediateW_87 ?_
  refine lv_iconst (v := 5) hx hb dX10_immediateW_90 (by decide) ?_
  refine lv_icmp_ne (tgt := 117) hx hb dX10_immediateW_91 (by decide) (fun h11 => ?_) (fun h11 => ?_)
  · have hm := (if_neg h11).symm.trans hm
    refine lv_aload_n hx hb dX10_immediateW_117 rfl (lv_at hl 0 rfl) ?_
    obtain ⟨z12, qz12⟩ : ∃ t : Int32 × eb_St, t = m_X10_illegal σ := ⟨_, rfl⟩
    have hm : (z12.1, z12.2) = mm := by rw [qz12]; exact hm
    have jz12 : rJ z12.2 := J_X10_illegal qz12.symm hj_
    have hc : eb_M l yX10_illegal (Cond.code yX10_illegal cX10_illegal 1 (some .int) :: wsL_law) 1 23 D 18 cy rL ad σ [.ref (ad 0)] (some (.int z12.1)) z12.2 := by rw [qz12]; exact c_X10_illegal l D cy ad σ hj_
    refine eb_callV (n := 0) (as := []) (rest := []) X hw hl.1 0 hc (by decide) ⟨rfl, rfl, rfl⟩ (eb_goodV wi_32_23 wi_33_0 wi_33_1 wi_1_5 wi_33_2) rfl (by decide +kernel) ⟨by decide, by decide⟩ rfl rfl (Nat.le_of_ble_eq_true rfl) dX10_immediateW_118 ⟨by decide, by decide⟩ (st' := [.int z12.1]) rfl (fun H locs hw => ?_)
    subst hm
    exact eb_iret X hw rfl rfl rfl dX10_immediateW_121
  · have hm := (if_pos h11).symm.trans hm
    refine lv_aload_n hx hb dX10_immediateW_94 rfl (lv_at hl 0 rfl) ?_
    refine eb_get (T := TX10) X hw 0 42 (by decide) ⟨rfl, rfl, rfl⟩ (by decide) (fun _ h => List.mem_cons_of_mem _ (inlX10 _ h)) (List.mem_cons_of_mem _ wi_30_13) (v := .int (σ.1 0 42)) rfl dX10_immediateW_95 ?_
    refine lv_bipush (v := 32) hx hb dX10_immediateW_98 (by decide) ?_
    refine lv_icmp_ne (tgt := 117) hx hb dX10_immediateW_100 (by decide) (fun h13 => ?_) (fun h13 => ?_)
    · have hm := (if_neg h13).symm.trans hm
      refine lv_aload_n hx hb dX10_immediateW_117 rfl (lv_at hl 0 rfl) ?_
      obtain ⟨z14, qz14⟩ : ∃ t : Int32 × eb_St, t = m_X10_illegal σ := ⟨_, rfl⟩
      have hm : (z14.1, z14.2) = mm := by rw [qz14]; exact hm
      have jz14 : rJ z14.2 := J_X10_illegal qz14.symm hj_
      have hc : eb_M l yX10_illegal (Cond.code yX10_illegal cX10_illegal 1 (some .int) :: wsL_law) 1 23 D 18 cy rL ad σ [.ref (ad 0)] (some (.int z14.1)) z14.2 := by rw [qz14]; exact c_X10_illegal l D cy ad σ hj_
      refine eb_callV (n := 0) (as := []) (rest := []) X hw hl.1 0 hc (by decide) ⟨rfl, rfl, rfl⟩ (eb_goodV wi_32_23 wi_33_0 wi_33_1 wi_1_5 wi_33_2) rfl (by decide +kernel) ⟨by decide, by decide⟩ rfl rfl (Nat.le_of_ble_eq_true rfl) dX10_immediateW_118 ⟨by decide, by decide⟩ (st' := [.int z14.1]) rfl (fun H locs hw => ?_)
      subst hm
      exact eb_iret X hw rfl rfl rfl dX10_immediateW_121
    · have hm := (if_pos h13).symm.trans hm
      refine lv_aload_n hx hb dX10_immediateW_103 rfl (lv_at hl 0 rfl) ?_
      refine lv_iload_n hx hb dX10_immediateW_104 rfl (lv_at hl 1 rfl) ?_
      refine lv_aload_n hx hb dX10_immediateW_105 rfl (lv_at hl 0 rfl) ?_
      refine eb_get (T := TX10) X hw 0 40 (by decide) ⟨rfl, rfl, rfl⟩ (by decide) (fun _ h => List.mem_cons_of_mem _ (inlX10 _ h)) (List.mem_cons_of_mem _ wi_30_12) (v := .int (σ.1 0 40)) rfl dX10_immediateW_106 ?_
      refine lv_ishr hx hb dX10_immediateW_109 ?_
      refine lv_i2l (v := (v1 >>> ((σ.1 0 40) &&& 31)).toInt64) hx hb dX10_immediateW_110 rfl ?_
      obtain ⟨z15, qz15⟩ : ∃ t : Int32 × eb_St, t = m_X10_sets σ ((v1 >>> ((σ.1 0 40) &&& 31)).toInt64) := ⟨_, rfl⟩
      have hm : (z15.1, z15.2) = mm := by rw [qz15]; exact hm
      have jz15 : rJ z15.2 := J_X10_sets qz15.symm hj_
      have hc : eb_M l yX10_sets (Cond.code yX10_sets cX10_sets 3 (some .int) :: wsL_law) 2 43 D 18 cy rL ad σ [.ref (ad 0), .long ((v1 >>> ((σ.1 0 40) &&& 31)).toInt64)] (some (.int z15.1)) z15.2 := by rw [qz15]; exact c_X10_sets l D cy ad σ ((v1 >>> ((σ.1 0 40) &&& 31)).toInt64) hj_
      refine eb_callV (n := 1) (as := [.long ((v1 >>> ((σ.1 0 40) &&& 31)).toInt64)]) (rest := []) X hw hl.1 0 hc (by decide) ⟨rfl, rfl, rfl⟩ (eb_goodV wi_32_2 wi_32_3 wi_32_4 wi_1_5 wi_32_5) rfl (by decide +kernel) ⟨by decide, by decide⟩ rfl rfl (Nat.le_of_ble_eq_true rfl) dX10_immediateW_111 ⟨by decide, by decide⟩ (st' := [.int z15.1]) rfl (fun H locs hw => ?_)
      refine lv_goto (tgt := 121) hx hb dX10_immediateW_114 (by decide) ?_
      subst hm
      exact eb_iret X hw rfl rfl rfl dX10_immediateW_121
set_option maxHeartbeats 4000000 in
set_option maxRecDepth 100000 in
theorem k_X10_immediateW_59 {p : Program} {l : Launch} {e : Env} {s : State} {m : MethodId} {args : Array Value} {below : List Frame} {meth : Method} {c : Code} {A : Nat → Prop} {H : Heap} {locs : List Loc} {ls : Array Slot} {D : va_G} {cy : Nat → ClassId} {ad : Nat → Nat} (X : eb_X p s m args meth c cX10_immediateW 2 RX10 (Cond.code yX10_immediateW cX10_immediateW 2 (some .int) :: wsL_law) (some .int) D cy A)   (σ : eb_St) (v1 : Int32) (hj_ : rJ σ) {mm : Int32 × eb_St} (hm : (m_X10_immediateW_59  σ v1) = mm) (hw : eb_H D 18 cy rL ad A s.heap σ H locs) (hl : lv_has ls 2 [(0, .ref (ad 0)), (1, .int v1)]) : W p l e ({ frames := 3, cells := 0, slots := 0, locals := 65 } : Room) s m args below meth c H locs 0 0 (MQ below (eb_Q D 18 cy rL ad A (some (.int mm.1)) mm.2) args s 0 0 A) (F0 m 59 ls []) := by
  have hx := X.1.1
  have hb := X.1.2.1
  have hown := X.1.2.2.2.1
  have hts := X.1.2.2.2.2
  have hm : (if (σ.1 0 41) = 5 then (if (σ.1 0 42) = 0 then (fun (z10 : Int32 × eb_St) => (z10.1, z10.2)) (m_X10_sets σ ((eb_iushr v1 (σ.1 0 40)).toInt64)) else m_X10_immediateW_86  σ v1) else m_X10_immediateW_86  σ v1) = mm := hm
  refine lv_aload_n hx hb dX10_immediateW_59 rfl (lv_at hl 0 rfl) ?_
  refine eb_get (T := TX10) X hw 0 41 (by decide) ⟨rfl, rfl, rfl⟩ (by decide) (fun _ h => List.mem_cons_of_mem _ (inlX10 _ h)) (List.mem_cons_of_mem _ wi_30_10) (v := .int (σ.1 0 41)) rfl dX10_immediateW_60 ?_
  refine lv_iconst (v := 5) hx hb dX10_immediateW_63 (by decide) ?_
  refine lv_icmp_ne (tgt := 86) hx hb dX10_immediateW_64 (by decide) (fun h8 => ?_) (fun h8 => ?_)
  · have hm := (if_neg h8).symm.trans hm
    exact k_X10_immediateW_86 X   σ v1 hj_ hm hw (lv_sub hl [0, 1] rfl)
  · have hm := (if_pos h8).symm.trans hm
    refine lv_aload_n hx hb dX10_immediateW_67 rfl (lv_at hl 0 rfl) ?_
    refine eb_get (T := TX10) X hw 0 42 (by decide) ⟨rfl, rfl, rfl⟩ (by decide) (fun _ h => List.mem_cons_of_mem _ (inlX10 _ h)) (List.mem_cons_of_mem _ wi_30_13) (v := .int (σ.1 0 42)) rfl dX10_immediateW_68 ?_
    refine lv_if_ne (tgt := 86) hx hb dX10_immediateW_71 (by decide) (fun h9 => ?_) (fun h9 => ?_)
    · have hm := (if_neg h9).symm.trans hm
      exact k_X10_immediateW_86 X   σ v1 hj_ hm hw (lv_sub hl [0, 1] rfl)
    · have hm := (if_pos h9).symm.trans hm
      refine lv_aload_n hx hb dX10_immediateW_74 rfl (lv_at hl 0 rfl) ?_
      refine lv_iload_n hx hb dX10_immediateW_75 rfl (lv_at hl 1 rfl) ?_
      refine lv_aload_n hx hb dX10_immediateW_76 rfl (lv_at hl 0 rfl) ?_
      refine eb_get (T := TX10) X hw 0 40 (by decide) ⟨rfl, rfl, rfl⟩ (by decide) (fun _ h => List.mem_cons_of_mem _ (inlX10 _ h)) (List.mem_cons_of_mem _ wi_30_12) (v := .int (σ.1 0 40)) rfl dX10_immediateW_77 ?_
      refine lv_iushr (v := eb_iushr v1 (σ.1 0 40)) hx hb dX10_immediateW_80 rfl ?_
      refine lv_i2l (v := (eb_iushr v1 (σ.1 0 40)).toInt64) hx hb dX10_immediateW_81 rfl ?_
      obtain ⟨z10, qz10⟩ : ∃ t : Int32 × eb_St, t = m_X10_sets σ ((eb_iushr v1 (σ.1 0 40)).toInt64) := ⟨_, rfl⟩
      have hm : (z10.1, z10.2) = mm := by rw [qz10]; exact hm
      have jz10 : rJ z10.2 := J_X10_sets qz10.symm hj_
      have hc : eb_M l yX10_sets (Cond.code yX10_sets cX10_sets 3 (some .int) :: wsL_law) 2 43 D 18 cy rL ad σ [.ref (ad 0), .long ((eb_iushr v1 (σ.1 0 40)).toInt64)] (some (.int z10.1)) z10.2 := by rw [qz10]; exact c_X10_sets l D cy ad σ ((eb_iushr v1 (σ.1 0 40)).toInt64) hj_
      refine eb_callV (n := 1) (as := [.long ((eb_iushr v1 (σ.1 0 40)).toInt64)]) (rest := []) X hw hl.1 0 hc (by decide) ⟨rfl, rfl, rfl⟩ (eb_goodV wi_32_2 wi_32_3 wi_32_4 wi_1_5 wi_32_5) rfl (by decide +kernel) ⟨by decide, by decide⟩ rfl rfl (Nat.le_of_ble_eq_true rfl) dX10_immediateW_82 ⟨by decide, by decide⟩ (st' := [.int z10.1]) rfl (fun H locs hw => ?_)
      subst hm
      exact eb_iret X hw rfl rfl rfl dX10_immediateW_85
set_option maxHeartbeats 4000000 in
set_option maxRecDepth 100000 in
theorem c_X10_immediateW (l : Launch) (D : va_G) (cy : Nat → ClassId) (ad : Nat → Nat) (σ : eb_St)  (hj_ : rJ σ) : eb_M l yX10_immediateW (Cond.code yX10_immediateW cX10_immediateW 2 (some .int) :: wsL_law) 3 65 D 18 cy rL ad σ [.ref (ad 0)] (some (.int (m_X10_immediateW σ).1)) ((m_X10_immediateW σ).2) := by
  refine eb_start (own := RX10) (by decide) rfl rfl (Nat.le_of_ble_eq_true rfl) ?_
  intro p e s m args below meth c A ls X hw hl
  have hl : lv_has ls 2 [(0, .ref (ad 0))] := hl
  have hx := X.1.1
  have hb := X.1.2.1
  have hown := X.1.2.2.2.1
  have hts := X.1.2.2.2.2
  generalize hm : m_X10_immediateW σ = mm
  have hm : (fun (z1 : Int64) => (fun (x2 : Int32) => (if (σ.1 0 41) = 0 then (fun (z7 : Int32 × eb_St) => (z7.1, z7.2)) (m_X10_sets σ ((x2 + ((σ.1 0 37) >>> (20 &&& 31))).toInt64)) else (if (σ.1 0 41) = 1 then (if (σ.1 0 42) = 0 then (fun (z6 : Int32 × eb_St) => (z6.1, z6.2)) (m_X10_sets σ ((x2 <<< ((σ.1 0 40) &&& 31)).toInt64)) else m_X10_immediateW_59  σ x2) else m_X10_immediateW_59  σ x2))) (z1.toInt32)) (m_X10_x σ (σ.1 0 39)) = mm := hm
  refine lv_aload_n hx hb dX10_immediateW_0 rfl (lv_at hl 0 rfl) ?_
  refine lv_aload_n hx hb dX10_immediateW_1 rfl (lv_at hl 0 rfl) ?_
  refine eb_get (T := TX10) X hw 0 39 (by decide) ⟨rfl, rfl, rfl⟩ (by decide) (fun _ h => List.mem_cons_of_mem _ (inlX10 _ h)) (List.mem_cons_of_mem _ wi_30_11) (v := .int (σ.1 0 39)) rfl dX10_immediateW_2 ?_
  obtain ⟨z1, qz1⟩ : ∃ t : Int64, t = m_X10_x σ (σ.1 0 39) := ⟨_, rfl⟩
  have hm : (fun (x2 : Int32) => (if (σ.1 0 41) = 0 then (fun (z7 : Int32 × eb_St) => (z7.1, z7.2)) (m_X10_sets σ ((x2 + ((σ.1 0 37) >>> (20 &&& 31))).toInt64)) else (if (σ.1 0 41) = 1 then (if (σ.1 0 42) = 0 then (fun (z6 : Int32 × eb_St) => (z6.1, z6.2)) (m_X10_sets σ ((x2 <<< ((σ.1 0 40) &&& 31)).toInt64)) else m_X10_immediateW_59  σ x2) else m_X10_immediateW_59  σ x2))) (z1.toInt32) = mm := by rw [qz1]; exact hm
  have hc : eb_M l yX10_x (Cond.code yX10_x cX10_x 2 (some .long) :: wsL_law) 1 20 D 18 cy rL ad σ [.ref (ad 0), .int (σ.1 0 39)] (some (.long z1)) σ := by rw [qz1]; exact c_X10_x l D cy ad σ (σ.1 0 39) hj_ hj_.2.2.2.1
  refine eb_callV (n := 1) (as := [.int (σ.1 0 39)]) (rest := []) X hw hl.1 0 hc (by decide) ⟨rfl, rfl, rfl⟩ (eb_goodV wi_33_4 wi_33_5 wi_33_6 wi_1_5 wi_33_7) rfl (by decide +kernel) ⟨by decide, by decide⟩ rfl rfl (Nat.le_of_ble_eq_true rfl) dX10_immediateW_5 ⟨by decide, by decide⟩ (st' := [.long z1]) rfl (fun H locs hw => ?_)
  refine lv_l2i (v := z1.toInt32) hx hb dX10_immediateW_8 rfl ?_
  refine lv_topi (fun x2 ex2 => ?_)
  have hm : (if (σ.1 0 41) = 0 then (fun (z7 : Int32 × eb_St) => (z7.1, z7.2)) (m_X10_sets σ ((x2 + ((σ.1 0 37) >>> (20 &&& 31))).toInt64)) else (if (σ.1 0 41) = 1 then (if (σ.1 0 42) = 0 then (fun (z6 : Int32 × eb_St) => (z6.1, z6.2)) (m_X10_sets σ ((x2 <<< ((σ.1 0 40) &&& 31)).toInt64)) else m_X10_immediateW_59  σ x2) else m_X10_immediateW_59  σ x2)) = mm := by rw [ex2]; exact hm
  refine lv_istore_n (lv' := [(1, .int x2), (0, .ref (ad 0))]) hx hb dX10_immediateW_9 rfl hl (by decide) rfl (fun ls hl => ?_)
  refine lv_aload_n hx hb dX10_immediateW_10 rfl (lv_at hl 1 rfl) ?_
  refine eb_get (T := TX10) X hw 0 41 (by decide) ⟨rfl, rfl, rfl⟩ (by decide) (fun _ h => List.mem_cons_of_mem _ (inlX10 _ h)) (List.mem_cons_of_mem _ wi_30_10) (v := .int (σ.1 0 41)) rfl dX10_immediateW_11 ?_
  refine lv_if_ne (tgt := 32) hx hb dX10_immediateW_14 (by decide) (fun h3 => ?_) (fun h3 => ?_)
  · have hm := (if_neg h3).symm.trans hm
    refine lv_aload_n hx hb dX10_immediateW_32 rfl (lv_at hl 1 rfl) ?_
    refine eb_get (T := TX10) X hw 0 41 (by decide) ⟨rfl, rfl, rfl⟩ (by decide) (fun _ h => List.mem_cons_of_mem _ (inlX10 _ h)) (List.mem_cons_of_mem _ wi_30_10) (v := .int (σ.1 0 41)) rfl dX10_immediateW_33 ?_
    refine lv_iconst (v := 1) hx hb dX10_immediateW_36 (by decide) ?_
    refine lv_icmp_ne (tgt := 59) hx hb dX10_immediateW_37 (by decide) (fun h4 => ?_) (fun h4 => ?_)
    · have hm := (if_neg h4).symm.trans hm
      exact k_X10_immediateW_59 X   σ x2 hj_ hm hw (lv_sub hl [1, 0] rfl)
    · have hm := (if_pos h4).symm.trans hm
      refine lv_aload_n hx hb dX10_immediateW_40 rfl (lv_at hl 1 rfl) ?_
      refine eb_get (T := TX10) X hw 0 42 (by decide) ⟨rfl, rfl, rfl⟩ (by decide) (fun _ h => List.mem_cons_of_mem _ (inlX10 _ h)) (List.mem_cons_of_mem _ wi_30_13) (v := .int (σ.1 0 42)) rfl dX10_immediateW_41 ?_
      refine lv_if_ne (tgt := 59) hx hb dX10_immediateW_44 (by decide) (fun h5 => ?_) (fun h5 => ?_)
      · have hm := (if_neg h5).symm.trans hm
        exact k_X10_immediateW_59 X   σ x2 hj_ hm hw (lv_sub hl [1, 0] rfl)
      · have hm := (if_pos h5).symm.trans hm
        refine lv_aload_n hx hb dX10_immediateW_47 rfl (lv_at hl 1 rfl) ?_
        refine lv_iload_n hx hb dX10_immediateW_48 rfl (lv_at hl 0 rfl) ?_
        refine lv_aload_n hx hb dX10_immediateW_49 rfl (lv_at hl 1 rfl) ?_
        refine eb_get (T := TX10) X hw 0 40 (by decide) ⟨rfl, rfl, rfl⟩ (by decide) (fun _ h => List.mem_cons_of_mem _ (inlX10 _ h)) (List.mem_cons_of_mem _ wi_30_12) (v := .int (σ.1 0 40)) rfl dX10_immediateW_50 ?_
        refine lv_ishl hx hb dX10_immediateW_53 ?_
        refine lv_i2l (v := (x2 <<< ((σ.1 0 40) &&& 31)).toInt64) hx hb dX10_immediateW_54 rfl ?_
        obtain ⟨z6, qz6⟩ : ∃ t : Int32 × eb_St, t = m_X10_sets σ ((x2 <<< ((σ.1 0 40) &&& 31)).toInt64) := ⟨_, rfl⟩
        have hm : (z6.1, z6.2) = mm := by rw [qz6]; exact hm
        have jz6 : rJ z6.2 := J_X10_sets qz6.symm hj_
        have hc : eb_M l yX10_sets (Cond.code yX10_sets cX10_sets 3 (some .int) :: wsL_law) 2 43 D 18 cy rL ad σ [.ref (ad 0), .long ((x2 <<< ((σ.1 0 40) &&& 31)).toInt64)] (some (.int z6.1)) z6.2 := by rw [qz6]; exact c_X10_sets l D cy ad σ ((x2 <<< ((σ.1 0 40) &&& 31)).toInt64) hj_
        refine eb_callV (n := 1) (as := [.long ((x2 <<< ((σ.1 0 40) &&& 31)).toInt64)]) (rest := []) X hw hl.1 0 hc (by decide) ⟨rfl, rfl, rfl⟩ (eb_goodV wi_32_2 wi_32_3 wi_32_4 wi_1_5 wi_32_5) rfl (by decide +kernel) ⟨by decide, by decide⟩ rfl rfl (Nat.le_of_ble_eq_true rfl) dX10_immediateW_55 ⟨by decide, by decide⟩ (st' := [.int z6.1]) rfl (fun H locs hw => ?_)
        subst hm
        exact eb_iret X hw rfl rfl rfl dX10_immediateW_58
  · have hm := (if_pos h3).symm.trans hm
    refine lv_aload_n hx hb dX10_immediateW_17 rfl (lv_at hl 1 rfl) ?_
    refine lv_iload_n hx hb dX10_immediateW_18 rfl (lv_at hl 0 rfl) ?_
    refine lv_aload_n hx hb dX10_immediateW_19 rfl (lv_at hl 1 rfl) ?_
    refine eb_get (T := TX10) X hw 0 37 (by decide) ⟨rfl, rfl, rfl⟩ (by decide) (fun _ h => List.mem_cons_of_mem _ (inlX10 _ h)) (List.mem_cons_of_mem _ wi_30_8) (v := .int (σ.1 0 37)) rfl dX10_immediateW_20 ?_
    refine lv_bipush (v := 20) hx hb dX10_immediateW_23 (by decide) ?_
    refine lv_ishr hx hb dX10_immediateW_25 ?_
    refine lv_iadd hx hb dX10_immediateW_26 ?_
    refine lv_i2l (v := (x2 + ((σ.1 0 37) >>> (20 &&& 31))).toInt64) hx hb dX10_immediateW_27 rfl ?_
    obtain ⟨z7, qz7⟩ : ∃ t : Int32 × eb_St, t = m_X10_sets σ ((x2 + ((σ.1 0 37) >>> (20 &&& 31))).toInt64) := ⟨_, rfl⟩
    have hm : (z7.1, z7.2) = mm := by rw [qz7]; exact hm
    have jz7 : rJ z7.2 := J_X10_sets qz7.symm hj_
    have hc : eb_M l yX10_sets (Cond.code yX10_sets cX10_sets 3 (some .int) :: wsL_law) 2 43 D 18 cy rL ad σ [.ref (ad 0), .long ((x2 + ((σ.1 0 37) >>> (20 &&& 31))).toInt64)] (some (.int z7.1)) z7.2 := by rw [qz7]; exact c_X10_sets l D cy ad σ ((x2 + ((σ.1 0 37) >>> (20 &&& 31))).toInt64) hj_
    refine eb_callV (n := 1) (as := [.long ((x2 + ((σ.1 0 37) >>> (20 &&& 31))).toInt64)]) (rest := []) X hw hl.1 0 hc (by decide) ⟨rfl, rfl, rfl⟩ (eb_goodV wi_32_2 wi_32_3 wi_32_4 wi_1_5 wi_32_5) rfl (by decide +kernel) ⟨by decide, by decide⟩ rfl rfl (Nat.le_of_ble_eq_true rfl) dX10_immediateW_28 ⟨by decide, by decide⟩ (st' := [.int z7.1]) rfl (fun H locs hw => ?_)
    subst hm
    exact eb_iret X hw rfl rfl rfl dX10_immediateW_31

theorem J_X10_registers {σ : eb_St}  {mm : Int32 × eb_St} (hm : m_X10_registers σ = mm) (hj_ : rJ σ) : rJ mm.2 := by
  have hm : (fun (z1 : Int64) => (fun (z2 : Int64) => (if (σ.1 0 42) = 1 then (fun (z32 : Int64) => (fun (z33 : Int32 × eb_St) => (z33.1, z33.2)) (m_X10_sets σ z32)) (m_X10_product σ z1 z2) else (if (σ.1 0 42) = 32 then (if (σ.1 0 41) = 0 then (fun (z31 : Int32 × eb_St) => (z31.1, z31.2)) (m_X10_sets σ (z1 - z2)) else (if (σ.1 0 41) = 5 then (fun (z30 : Int32 × eb_St) => (z30.1, z30.2)) (m_X10_sets σ (eb_lshr z1 ((z2 &&& 63).toInt32))) else (fun (z29 : Int32 × eb_St) => (z29.1, z29.2)) (m_X10_illegal σ))) else (if (σ.1 0 42) = 0 then (if (σ.1 0 41) = 0 then (fun (z7 : Int32 × eb_St) => (z7.1, z7.2)) (m_X10_sets σ (z1 + z2)) else if (σ.1 0 41) = 1 then (fun (z9 : Int32 × eb_St) => (z9.1, z9.2)) (m_X10_sets σ (eb_lshl z1 ((z2 &&& 63).toInt32))) else if (σ.1 0 41) = 2 then (if z2 ≤ z1 then (fun (z12 : Int32 × eb_St) => (z12.1, z12.2)) (m_X10_sets σ 0) else (fun (z13 : Int32 × eb_St) => (z13.1, z13.2)) (m_X10_sets σ 1)) else if (σ.1 0 41) = 3 then (fun (z15 : Bool) => (if (eb_b z15) = 0 then (fun (z17 : Int32 × eb_St) => (z17.1, z17.2)) (m_X10_sets σ 0) else (fun (z18 : Int32 × eb_St) => (z18.1, z18.2)) (m_X10_sets σ 1))) (m_X10_isBelow z1 z2) else if (σ.1 0 41) = 4 then (fun (z20 : Int32 × eb_St) => (z20.1, z20.2)) (m_X10_sets σ (z1 ^^^ z2)) else if (σ.1 0 41) = 5 then (fun (z22 : Int32 × eb_St) => (z22.1, z22.2)) (m_X10_sets σ (eb_lushr z1 ((z2 &&& 63).toInt32))) else if (σ.1 0 41) = 6 then (fun (z24 : Int32 × eb_St) => (z24.1, z24.2)) (m_X10_sets σ (z1 ||| z2)) else (fun (z25 : Int32 × eb_St) => (z25.1, z25.2)) (m_X10_sets σ (z1 &&& z2))) else (fun (z26 : Int32 × eb_St) => (z26.1, z26.2)) (m_X10_illegal σ))))) (m_X10_x σ (σ.1 0 40))) (m_X10_x σ (σ.1 0 39)) = mm := hm
  obtain ⟨z1, qz1⟩ : ∃ t : Int64, t = m_X10_x σ (σ.1 0 39) := ⟨_, rfl⟩
  have hm : (fun (z2 : Int64) => (if (σ.1 0 42) = 1 then (fun (z32 : Int64) => (fun (z33 : Int32 × eb_St) => (z33.1, z33.2)) (m_X10_sets σ z32)) (m_X10_product σ z1 z2) else (if (σ.1 0 42) = 32 then (if (σ.1 0 41) = 0 then (fun (z31 : Int32 × eb_St) => (z31.1, z31.2)) (m_X10_sets σ (z1 - z2)) else (if (σ.1 0 41) = 5 then (fun (z30 : Int32 × eb_St) => (z30.1, z30.2)) (m_X10_sets σ (eb_lshr z1 ((z2 &&& 63).toInt32))) else (fun (z29 : Int32 × eb_St) => (z29.1, z29.2)) (m_X10_illegal σ))) else (if (σ.1 0 42) = 0 then (if (σ.1 0 41) = 0 then (fun (z7 : Int32 × eb_St) => (z7.1, z7.2)) (m_X10_sets σ (z1 + z2)) else if (σ.1 0 41) = 1 then (fun (z9 : Int32 × eb_St) => (z9.1, z9.2)) (m_X10_sets σ (eb_lshl z1 ((z2 &&& 63).toInt32))) else if (σ.1 0 41) = 2 then (if z2 ≤ z1 then (fun (z12 : Int32 × eb_St) => (z12.1, z12.2)) (m_X10_sets σ 0) else (fun (z13 : Int32 × eb_St) => (z13.1, z13.2)) (m_X10_sets σ 1)) else if (σ.1 0 41) = 3 then (fun (z15 : Bool) => (if (eb_b z15) = 0 then (fun (z17 : Int32 × eb_St) => (z17.1, z17.2)) (m_X10_sets σ 0) else (fun (z18 : Int32 × eb_St) => (z18.1, z18.2)) (m_X10_sets σ 1))) (m_X10_isBelow z1 z2) else if (σ.1 0 41) = 4 then (fun (z20 : Int32 × eb_St) => (z20.1, z20.2)) (m_X10_sets σ (z1 ^^^ z2)) else if (σ.1 0 41) = 5 then (fun (z22 : Int32 × eb_St) => (z22.1, z22.2)) (m_X10_sets σ (eb_lushr z1 ((z2 &&& 63).toInt32))) else if (σ.1 0 41) = 6 then (fun (z24 : Int32 × eb_St) => (z24.1, z24.2)) (m_X10_sets σ (z1 ||| z2)) else (fun (z25 : Int32 × eb_St) => (z25.1, z25.2)) (m_X10_sets σ (z1 &&& z2))) else (fun (z26 : Int32 × eb_St) => (z26.1, z26.2)) (m_X10_illegal σ))))) (m_X10_x σ (σ.1 0 40)) = mm := by rw [qz1]; exact hm
  obtain ⟨z2, qz2⟩ : ∃ t : Int64, t = m_X10_x σ (σ.1 0 40) := ⟨_, rfl⟩
  have hm : (if (σ.1 0 42) = 1 then (fun (z32 : Int64) => (fun (z33 : Int32 × eb_St) => (z33.1, z33.2)) (m_X10_sets σ z32)) (m_X10_product σ z1 z2) else (if (σ.1 0 42) = 32 then (if (σ.1 0 41) = 0 then (fun (z31 : Int32 × eb_St) => (z31.1, z31.2)) (m_X10_sets σ (z1 - z2)) else (if (σ.1 0 41) = 5 then (fun (z30 : Int32 × eb_St) => (z30.1, z30.2)) (m_X10_sets σ (eb_lshr z1 ((z2 &&& 63).toInt32))) else (fun (z29 : Int32 × eb_St) => (z29.1, z29.2)) (m_X10_illegal σ))) else (if (σ.1 0 42) = 0 then (if (σ.1 0 41) = 0 then (fun (z7 : Int32 × eb_St) => (z7.1, z7.2)) (m_X10_sets σ (z1 + z2)) else if (σ.1 0 41) = 1 then (fun (z9 : Int32 × eb_St) => (z9.1, z9.2)) (m_X10_sets σ (eb_lshl z1 ((z2 &&& 63).toInt32))) else if (σ.1 0 41) = 2 then (if z2 ≤ z1 then (fun (z12 : Int32 × eb_St) => (z12.1, z12.2)) (m_X10_sets σ 0) else (fun (z13 : Int32 × eb_St) => (z13.1, z13.2)) (m_X10_sets σ 1)) else if (σ.1 0 41) = 3 then (fun (z15 : Bool) => (if (eb_b z15) = 0 then (fun (z17 : Int32 × eb_St) => (z17.1, z17.2)) (m_X10_sets σ 0) else (fun (z18 : Int32 × eb_St) => (z18.1, z18.2)) (m_X10_sets σ 1))) (m_X10_isBelow z1 z2) else if (σ.1 0 41) = 4 then (fun (z20 : Int32 × eb_St) => (z20.1, z20.2)) (m_X10_sets σ (z1 ^^^ z2)) else if (σ.1 0 41) = 5 then (fun (z22 : Int32 × eb_St) => (z22.1, z22.2)) (m_X10_sets σ (eb_lushr z1 ((z2 &&& 63).toInt32))) else if (σ.1 0 41) = 6 then (fun (z24 : Int32 × eb_St) => (z24.1, z24.2)) (m_X10_sets σ (z1 ||| z2)) else (fun (z25 : Int32 × eb_St) => (z25.1, z25.2)) (m_X10_sets σ (z1 &&& z2))) else (fun (z26 : Int32 × eb_St) => (z26.1, z26.2)) (m_X10_illegal σ)))) = mm := by rw [qz2]; exact hm
  refine eb_emn (c := (σ.1 0 42) = 1) (fun h3 => ?_) (fun h3 => ?_)
  · have hm := (if_neg h3).symm.trans hm
    refine eb_emn (c := (σ.1 0 42) = 32) (fun h4 => ?_) (fun h4 => ?_)
    · have hm := (if_neg h4).symm.trans hm
      refine eb_em (c := (σ.1 0 42) = 0) (fun h5 => ?_) (fun h5 => ?_)
      · have hm := (if_pos h5).symm.trans hm
        by_cases h6 : (σ.1 0 41) = 0
        · have hm := (if_pos h6).symm.trans hm
          obtain ⟨z7, qz7⟩ : ∃ t : Int32 × eb_St, t = m_X10_sets σ (z1 + z2) := ⟨_, rfl⟩
          have hm : (z7.1, z7.2) = mm := by rw [qz7]; exact hm
          have jz7 : rJ z7.2 := J_X10_sets qz7.symm hj_
          subst hm
          exact jz7
        · have hm := (if_neg h6).symm.trans hm
          by_cases h8 : (σ.1 0 41) = 1
          · have hm := (if_pos h8).symm.trans hm
            obtain ⟨z9, qz9⟩ : ∃ t : Int32 × eb_St, t = m_X10_sets σ (eb_lshl z1 ((z2 &&& 63).toInt32)) := ⟨_, rfl⟩
            have hm : (z9.1, z9.2) = mm := by rw [qz9]; exact hm
            have jz9 : rJ z9.2 := J_X10_sets qz9.symm hj_
            subst hm
            exact jz9
          · have hm := (if_neg h8).symm.trans hm
            by_cases h10 : (σ.1 0 41) = 2
            · have hm := (if_pos h10).symm.trans hm
              refine eb_em (c := z2 ≤ z1) (fun h11 => ?_) (fun h11 => ?_)
              · have hm := (if_pos h11).symm.trans hm
                obtain ⟨z12, qz12⟩ : ∃ t : Int32 × eb_St, t = m_X10_sets σ 0 := ⟨_, rfl⟩
                have hm : (z12.1, z12.2) = mm := by rw [qz12]; exact hm
                have jz12 : rJ z12.2 := J_X10_sets qz12.symm hj_
                subst hm
                exact jz12
              · have hm := (if_neg h11).symm.trans hm
                obtain ⟨z13, qz13⟩ : ∃ t : Int32 × eb_St, t = m_X10_sets σ 1 := ⟨_, rfl⟩
                have hm : (z13.1, z13.2) = mm := by rw [qz13]; exact hm
                have jz13 : rJ z13.2 := J_X10_sets qz13.symm hj_
                subst hm
                exact jz13
            · have hm := (if_neg h10).symm.trans hm
              by_cases h14 : (σ.1 0 41) = 3
              · have hm := (if_pos h14).symm.trans hm
                obtain ⟨z15, qz15⟩ : ∃ t : Bool, t = m_X10_isBelow z1 z2 := ⟨_, rfl⟩
                have hm : (if (eb_b z15) = 0 then (fun (z17 : Int32 × eb_St) => (z17.1, z17.2)) (m_X10_sets σ 0) else (fun (z18 : Int32 × eb_St) => (z18.1, z18.2)) (m_X10_sets σ 1)) = mm := by rw [qz15]; exact hm
                refine eb_em (c := (eb_b z15) = 0) (fun h16 => ?_) (fun h16 => ?_)
                · have hm := (if_pos h16).symm.trans hm
                  obtain ⟨z17, qz17⟩ : ∃ t : Int32 × eb_St, t = m_X10_sets σ 0 := ⟨_, rfl⟩
                  have hm : (z17.1, z17.2) = mm := by rw [qz17]; exact hm
                  have jz17 : rJ z17.2 := J_X10_sets qz17.symm hj_
                  subst hm
                  exact jz17
                · have hm := (if_neg h16).symm.trans hm
                  obtain ⟨z18, qz18⟩ : ∃ t : Int32 × eb_St, t = m_X10_sets σ 1 := ⟨_, rfl⟩
                  have hm : (z18.1, z18.2) = mm := by rw [qz18]; exact hm
                  have jz18 : rJ z18.2 := J_X10_sets qz18.symm hj_
                  subst hm
                  exact jz18
              · have hm := (if_neg h14).symm.trans hm
                by_cases h19 : (σ.1 0 41) = 4
                · have hm := (if_pos h19).symm.trans hm
                  obtain ⟨z20, qz20⟩ : ∃ t : Int32 × eb_St, t = m_X10_sets σ (z1 ^^^ z2) := ⟨_, rfl⟩
                  have hm : (z20.1, z20.2) = mm := by rw [qz20]; exact hm
                  have jz20 : rJ z20.2 := J_X10_sets qz20.symm hj_
                  subst hm
                  exact jz20
                · have hm := (if_neg h19).symm.trans hm
                  by_cases h21 : (σ.1 0 41) = 5
                  · have hm := (if_pos h21).symm.trans hm
                    obtain ⟨z22, qz22⟩ : ∃ t : Int32 × eb_St, t = m_X10_sets σ (eb_lushr z1 ((z2 &&& 63).toInt32)) := ⟨_, rfl⟩
                    have hm : (z22.1, z22.2) = mm := by rw [qz22]; exact hm
                    have jz22 : rJ z22.2 := J_X10_sets qz22.symm hj_
                    subst hm
                    exact jz22
                  · have hm := (if_neg h21).symm.trans hm
                    by_cases h23 : (σ.1 0 41) = 6
                    · have hm := (if_pos h23).symm.trans hm
                      obtain ⟨z24, qz24⟩ : ∃ t : Int32 × eb_St, t = m_X10_sets σ (z1 ||| z2) := ⟨_, rfl⟩
                      have hm : (z24.1, z24.2) = mm := by rw [qz24]; exact hm
                      have jz24 : rJ z24.2 := J_X10_sets qz24.symm hj_
                      subst hm
                      exact jz24
                    · have hm := (if_neg h23).symm.trans hm
                      obtain ⟨z25, qz25⟩ : ∃ t : Int32 × eb_St, t = m_X10_sets σ (z1 &&& z2) := ⟨_, rfl⟩
                      have hm : (z25.1, z25.2) = mm := by rw [qz25]; exact hm
                      have jz25 : rJ z25.2 := J_X10_sets qz25.symm hj_
                      subst hm
                      exact jz25
      · have hm := (if_neg h5).symm.trans hm
        obtain ⟨z26, qz26⟩ : ∃ t : Int32 × eb_St, t = m_X10_illegal σ := ⟨_, rfl⟩
        have hm : (z26.1, z26.2) = mm := by rw [qz26]; exact hm
        have jz26 : rJ z26.2 := J_X10_illegal qz26.symm hj_
        subst hm
        exact jz26
    · have hm := (if_pos h4).symm.trans hm
      refine eb_emn (c := (σ.1 0 41) = 0) (fun h27 => ?_) (fun h27 => ?_)
      · have hm := (if_neg h27).symm.trans hm
        refine eb_emn (c := (σ.1 0 41) = 5) (fun h28 => ?_) (fun h28 => ?_)
        · have hm := (if_neg h28).symm.trans hm
          obtain ⟨z29, qz29⟩ : ∃ t : Int32 × eb_St, t = m_X10_illegal σ := ⟨_, rfl⟩
          have hm : (z29.1, z29.2) = mm := by rw [qz29]; exact hm
          have jz29 : rJ z29.2 := J_X10_illegal qz29.symm hj_
          subst hm
          exact jz29
        · have hm := (if_pos h28).symm.trans hm
          obtain ⟨z30, qz30⟩ : ∃ t : Int32 × eb_St, t = m_X10_sets σ (eb_lshr z1 ((z2 &&& 63).toInt32)) := ⟨_, rfl⟩
          have hm : (z30.1, z30.2) = mm := by rw [qz30]; exact hm
          have jz30 : rJ z30.2 := J_X10_sets qz30.symm hj_
          subst hm
          exact jz30
      · have hm := (if_pos h27).symm.trans hm
        obtain ⟨z31, qz31⟩ : ∃ t : Int32 × eb_St, t = m_X10_sets σ (z1 - z2) := ⟨_, rfl⟩
        have hm : (z31.1, z31.2) = mm := by rw [qz31]; exact hm
        have jz31 : rJ z31.2 := J_X10_sets qz31.symm hj_
        subst hm
        exact jz31
  · have hm := (if_pos h3).symm.trans hm
    obtain ⟨z32, qz32⟩ : ∃ t : Int64, t = m_X10_product σ z1 z2 := ⟨_, rfl⟩
    have hm : (fun (z33 : Int32 × eb_St) => (z33.1, z33.2)) (m_X10_sets σ z32) = mm := by rw [qz32]; exact hm
    obtain ⟨z33, qz33⟩ : ∃ t : Int32 × eb_St, t = m_X10_sets σ z32 := ⟨_, rfl⟩
    have hm : (z33.1, z33.2) = mm := by rw [qz33]; exact hm
    have jz33 : rJ z33.2 := J_X10_sets qz33.symm hj_
    subst hm
    exact jz33
set_option maxHeartbeats 4000000 in
set_option maxRecDepth 100000 in
theorem c_X10_registers (l : Launch) (D : va_G) (cy : Nat → ClassId) (ad : Nat → Nat) (σ : eb_St)  (hj_ : rJ σ) : eb_M l yX10_registers (Cond.code yX10_registers cX10_registers 5 (some .int) :: wsL_law) 3 72 D 18 cy rL ad σ [.ref (ad 0)] (some (.int (m_X10_registers σ).1)) ((m_X10_registers σ).2) := by
  refine eb_start (own := RX10) (by decide) rfl rfl (Nat.le_of_ble_eq_true rfl) ?_
  intro p e s m args below meth c A ls X hw hl
  have hl : lv_has ls 5 [(0, .ref (ad 0))] := hl
  have hx := X.1.1
  have hb := X.1.2.1
  have hown := X.1.2.2.2.1
  have hts := X.1.2.2.2.2
  generalize hm : m_X10_registers σ = mm
  have hm : (fun (z1 : Int64) => (fun (z2 : Int64) => (if (σ.1 0 42) = 1 then (fun (z32 : Int64) => (fun (z33 : Int32 × eb_St) => (z33.1, z33.2)) (m_X10_sets σ z32)) (m_X10_product σ z1 z2) else (if (σ.1 0 42) = 32 then (if (σ.1 0 41) = 0 then (fun (z31 : Int32 × eb_St) => (z31.1, z31.2)) (m_X10_sets σ (z1 - z2)) else (if (σ.1 0 41) = 5 then (fun (z30 : Int32 × eb_St) => (z30.1, z30.2)) (m_X10_sets σ (eb_lshr z1 ((z2 &&& 63).toInt32))) else (fun (z29 : Int32 × eb_St) => (z29.1, z29.2)) (m_X10_illegal σ))) else (if (σ.1 0 42) = 0 then (if (σ.1 0 41) = 0 then (fun (z7 : Int32 × eb_St) => (z7.1, z7.2)) (m_X10_sets σ (z1 + z2)) else if (σ.1 0 41) = 1 then (fun (z9 : Int32 × eb_St) => (z9.1, z9.2)) (m_X10_sets σ (eb_lshl z1 ((z2 &&& 63).toInt32))) else if (σ.1 0 41) = 2 then (if z2 ≤ z1 then (fun (z12 : Int32 × eb_St) => (z12.1, z12.2)) (m_X10_sets σ 0) else (fun (z13 : Int32 × eb_St) => (z13.1, z13.2)) (m_X10_sets σ 1)) else if (σ.1 0 41) = 3 then (fun (z15 : Bool) => (if (eb_b z15) = 0 then (fun (z17 : Int32 × eb_St) => (z17.1, z17.2)) (m_X10_sets σ 0) else (fun (z18 : Int32 × eb_St) => (z18.1, z18.2)) (m_X10_sets σ 1))) (m_X10_isBelow z1 z2) else if (σ.1 0 41) = 4 then (fun (z20 : Int32 × eb_St) => (z20.1, z20.2)) (m_X10_sets σ (z1 ^^^ z2)) else if (σ.1 0 41) = 5 then (fun (z22 : Int32 × eb_St) => (z22.1, z22.2)) (m_X10_sets σ (eb_lushr z1 ((z2 &&& 63).toInt32))) else if (σ.1 0 41) = 6 then (fun (z24 : Int32 × eb_St) => (z24.1, z24.2)) (m_X10_sets σ (z1 ||| z2)) else (fun (z25 : Int32 × eb_St) => (z25.1, z25.2)) (m_X10_sets σ (z1 &&& z2))) else (fun (z26 : Int32 × eb_St) => (z26.1, z26.2)) (m_X10_illegal σ))))) (m_X10_x σ (σ.1 0 40))) (m_X10_x σ (σ.1 0 39)) = mm := hm
  refine lv_aload_n hx hb dX10_registers_0 rfl (lv_at hl 0 rfl) ?_
  refine lv_aload_n hx hb dX10_registers_1 rfl (lv_at hl 0 rfl) ?_
  refine eb_get (T := TX10) X hw 0 39 (by decide) ⟨rfl, rfl, rfl⟩ (by decide) (fun _ h => List.mem_cons_of_mem _ (inlX10 _ h)) (List.mem_cons_of_mem _ wi_30_11) (v := .int (σ.1 0 39)) rfl dX10_registers_2 ?_
  obtain ⟨z1, qz1⟩ : ∃ t : Int64, t = m_X10_x σ (σ.1 0 39) := ⟨_, rfl⟩
  have hm : (fun (z2 : Int64) => (if (σ.1 0 42) = 1 then (fun (z32 : Int64) => (fun (z33 : Int32 × eb_St) => (z33.1, z33.2)) (m_X10_sets σ z32)) (m_X10_product σ z1 z2) else (if (σ.1 0 42) = 32 then (if (σ.1 0 41) = 0 then (fun (z31 : Int32 × eb_St) => (z31.1, z31.2)) (m_X10_sets σ (z1 - z2)) else (if (σ.1 0 41) = 5 then (fun (z30 : Int32 × eb_St) => (z30.1, z30.2)) (m_X10_sets σ (eb_lshr z1 ((z2 &&& 63).toInt32))) else (fun (z29 : Int32 × eb_St) => (z29.1, z29.2)) (m_X10_illegal σ))) else (if (σ.1 0 42) = 0 then (if (σ.1 0 41) = 0 then (fun (z7 : Int32 × eb_St) => (z7.1, z7.2)) (m_X10_sets σ (z1 + z2)) else if (σ.1 0 41) = 1 then (fun (z9 : Int32 × eb_St) => (z9.1, z9.2)) (m_X10_sets σ (eb_lshl z1 ((z2 &&& 63).toInt32))) else if (σ.1 0 41) = 2 then (if z2 ≤ z1 then (fun (z12 : Int32 × eb_St) => (z12.1, z12.2)) (m_X10_sets σ 0) else (fun (z13 : Int32 × eb_St) => (z13.1, z13.2)) (m_X10_sets σ 1)) else if (σ.1 0 41) = 3 then (fun (z15 : Bool) => (if (eb_b z15) = 0 then (fun (z17 : Int32 × eb_St) => (z17.1, z17.2)) (m_X10_sets σ 0) else (fun (z18 : Int32 × eb_St) => (z18.1, z18.2)) (m_X10_sets σ 1))) (m_X10_isBelow z1 z2) else if (σ.1 0 41) = 4 then (fun (z20 : Int32 × eb_St) => (z20.1, z20.2)) (m_X10_sets σ (z1 ^^^ z2)) else if (σ.1 0 41) = 5 then (fun (z22 : Int32 × eb_St) => (z22.1, z22.2)) (m_X10_sets σ (eb_lushr z1 ((z2 &&& 63).toInt32))) else if (σ.1 0 41) = 6 then (fun (z24 : Int32 × eb_St) => (z24.1, z24.2)) (m_X10_sets σ (z1 ||| z2)) else (fun (z25 : Int32 × eb_St) => (z25.1, z25.2)) (m_X10_sets σ (z1 &&& z2))) else (fun (z26 : Int32 × eb_St) => (z26.1, z26.2)) (m_X10_illegal σ))))) (m_X10_x σ (σ.1 0 40)) = mm := by rw [qz1]; exact hm
  have hc : eb_M l yX10_x (Cond.code yX10_x cX10_x 2 (some .long) :: wsL_law) 1 20 D 18 cy rL ad σ [.ref (ad 0), .int (σ.1 0 39)] (some (.long z1)) σ := by rw [qz1]; exact c_X10_x l D cy ad σ (σ.1 0 39) hj_ hj_.2.2.2.1
  refine eb_callV (n := 1) (as := [.int (σ.1 0 39)]) (rest := []) X hw hl.1 0 hc (by decide) ⟨rfl, rfl, rfl⟩ (eb_goodV wi_33_4 wi_33_5 wi_33_6 wi_1_5 wi_33_7) rfl (by decide +kernel) ⟨by decide, by decide⟩ rfl rfl (Nat.le_of_ble_eq_true rfl) dX10_registers_5 ⟨by decide, by decide⟩ (st' := [.long z1]) rfl (fun H locs hw => ?_)
  refine lv_lstore_n (lv' := [(1, .long z1), (0, .ref (ad 0))]) hx hb dX10_registers_8 rfl hl (by decide) rfl (fun ls hl => ?_)
  refine lv_aload_n hx hb dX10_registers_9 rfl (lv_at hl 1 rfl) ?_
  refine lv_aload_n hx hb dX10_registers_10 rfl (lv_at hl 1 rfl) ?_
  refine eb_get (T := TX10) X hw 0 40 (by decide) ⟨rfl, rfl, rfl⟩ (by decide) (fun _ h => List.mem_cons_of_mem _ (inlX10 _ h)) (List.mem_cons_of_mem _ wi_30_12) (v := .int (σ.1 0 40)) rfl dX10_registers_11 ?_
  obtain ⟨z2, qz2⟩ : ∃ t : Int64, t = m_X10_x σ (σ.1 0 40) := ⟨_, rfl⟩
  have hm : (if (σ.1 0 42) = 1 then (fun (z32 : Int64) => (fun (z33 : Int32 × eb_St) => (z33.1, z33.2)) (m_X10_sets σ z32)) (m_X10_product σ z1 z2) else (if (σ.1 0 42) = 32 then (if (σ.1 0 41) = 0 then (fun (z31 : Int32 × eb_St) => (z31.1, z31.2)) (m_X10_sets σ (z1 - z2)) else (if (σ.1 0 41) = 5 then (fun (z30 : Int32 × eb_St) => (z30.1, z30.2)) (m_X10_sets σ (eb_lshr z1 ((z2 &&& 63).toInt32))) else (fun (z29 : Int32 × eb_St) => (z29.1, z29.2)) (m_X10_illegal σ))) else (if (σ.1 0 42) = 0 then (if (σ.1 0 41) = 0 then (fun (z7 : Int32 × eb_St) => (z7.1, z7.2)) (m_X10_sets σ (z1 + z2)) else if (σ.1 0 41) = 1 then (fun (z9 : Int32 × eb_St) => (z9.1, z9.2)) (m_X10_sets σ (eb_lshl z1 ((z2 &&& 63).toInt32))) else if (σ.1 0 41) = 2 then (if z2 ≤ z1 then (fun (z12 : Int32 × eb_St) => (z12.1, z12.2)) (m_X10_sets σ 0) else (fun (z13 : Int32 × eb_St) => (z13.1, z13.2)) (m_X10_sets σ 1)) else if (σ.1 0 41) = 3 then (fun (z15 : Bool) => (if (eb_b z15) = 0 then (fun (z17 : Int32 × eb_St) => (z17.1, z17.2)) (m_X10_sets σ 0) else (fun (z18 : Int32 × eb_St) => (z18.1, z18.2)) (m_X10_sets σ 1))) (m_X10_isBelow z1 z2) else if (σ.1 0 41) = 4 then (fun (z20 : Int32 × eb_St) => (z20.1, z20.2)) (m_X10_sets σ (z1 ^^^ z2)) else if (σ.1 0 41) = 5 then (fun (z22 : Int32 × eb_St) => (z22.1, z22.2)) (m_X10_sets σ (eb_lushr z1 ((z2 &&& 63).toInt32))) else if (σ.1 0 41) = 6 then (fun (z24 : Int32 × eb_St) => (z24.1, z24.2)) (m_X10_sets σ (z1 ||| z2)) else (fun (z25 : Int32 × eb_St) => (z25.1, z25.2)) (m_X10_sets σ (z1 &&& z2))) else (fun (z26 : Int32 × eb_St) => (z26.1, z26.2)) (m_X10_illegal σ)))) = mm := by rw [qz2]; exact hm
  have hc : eb_M l yX10_x (Cond.code yX10_x cX10_x 2 (some .long) :: wsL_law) 1 20 D 18 cy rL ad σ [.ref (ad 0), .int (σ.1 0 40)] (some (.long z2)) σ := by rw [qz2]; exact c_X10_x l D cy ad σ (σ.1 0 40) hj_ hj_.2.2.2.2.1
  refine eb_callV (n := 1) (as := [.int (σ.1 0 40)]) (rest := []) X hw hl.1 0 hc (by decide) ⟨rfl, rfl, rfl⟩ (eb_goodV wi_33_4 wi_33_5 wi_33_6 wi_1_5 wi_33_7) rfl (by decide +kernel) ⟨by decide, by decide⟩ rfl rfl (Nat.le_of_ble_eq_true rfl) dX10_registers_14 ⟨by decide, by decide⟩ (st' := [.long z2]) rfl (fun H locs hw => ?_)
  refine lv_lstore_n (lv' := [(3, .long z2), (1, .long z1), (0, .ref (ad 0))]) hx hb dX10_registers_17 rfl hl (by decide) rfl (fun ls hl => ?_)
  refine lv_aload_n hx hb dX10_registers_18 rfl (lv_at hl 2 rfl) ?_
  refine eb_get (T := TX10) X hw 0 42 (by decide) ⟨rfl, rfl, rfl⟩ (by decide) (fun _ h => List.mem_cons_of_mem _ (inlX10 _ h)) (List.mem_cons_of_mem _ wi_30_13) (v := .int (σ.1 0 42)) rfl dX10_registers_19 ?_
  refine lv_iconst (v := 1) hx hb dX10_registers_22 (by decide) ?_
  refine lv_icmp_ne (tgt := 37) hx hb dX10_registers_23 (by decide) (fun h3 => ?_) (fun h3 => ?_)
  · have hm := (if_neg h3).symm.trans hm
    refine lv_aload_n hx hb dX10_registers_37 rfl (lv_at hl 2 rfl) ?_
    refine eb_get (T := TX10) X hw 0 42 (by decide) ⟨rfl, rfl, rfl⟩ (by decide) (fun _ h => List.mem_cons_of_mem _ (inlX10 _ h)) (List.mem_cons_of_mem _ wi_30_13) (v := .int (σ.1 0 42)) rfl dX10_registers_38 ?_
    refine lv_bipush (v := 32) hx hb dX10_registers_41 (by decide) ?_
    refine lv_icmp_ne (tgt := 91) hx hb dX10_registers_43 (by decide) (fun h4 => ?_) (fun h4 => ?_)
    · have hm := (if_neg h4).symm.trans hm
      refine lv_aload_n hx hb dX10_registers_91 rfl (lv_at hl 2 rfl) ?_
      refine eb_get (T := TX10) X hw 0 42 (by decide) ⟨rfl, rfl, rfl⟩ (by decide) (fun _ h => List.mem_cons_of_mem _ (inlX10 _ h)) (List.mem_cons_of_mem _ wi_30_13) (v := .int (σ.1 0 42)) rfl dX10_registers_92 ?_
      refine lv_if_eq (tgt := 103) hx hb dX10_registers_95 (by decide) (fun h5 => ?_) (fun h5 => ?_)
      · have hm := (if_pos h5).symm.trans hm
        refine lv_aload_n hx hb dX10_registers_103 rfl (lv_at hl 2 rfl) ?_
        refine eb_get (T := TX10) X hw 0 41 (by decide) ⟨rfl, rfl, rfl⟩ (by decide) (fun _ h => List.mem_cons_of_mem _ (inlX10 _ h)) (List.mem_cons_of_mem _ wi_30_10) (v := .int (σ.1 0 41)) rfl dX10_registers_104 ?_
        by_cases h6 : (σ.1 0 41) = 0
        · have hm := (if_pos h6).symm.trans hm
          refine lv_tableIn (off := 41) (tgt := 148) hx hb dX10_registers_107 (by rw [h6]; decide) (by rw [h6]; decide) (by rw [h6]; rfl) (by decide) ?_
          refine lv_aload_n hx hb dX10_registers_148 rfl (lv_at hl 2 rfl) ?_
          refine lv_lload_n hx hb dX10_registers_149 rfl (lv_at hl 1 rfl) ?_
          refine lv_lload_n hx hb dX10_registers_150 rfl (lv_at hl 0 rfl) ?_
          refine lv_ladd hx hb dX10_registers_151 ?_
          obtain ⟨z7, qz7⟩ : ∃ t : Int32 × eb_St, t = m_X10_sets σ (z1 + z2) := ⟨_, rfl⟩
          have hm : (z7.1, z7.2) = mm := by rw [qz7]; exact hm
          have jz7 : rJ z7.2 := J_X10_sets qz7.symm hj_
          have hc : eb_M l yX10_sets (Cond.code yX10_sets cX10_sets 3 (some .int) :: wsL_law) 2 43 D 18 cy rL ad σ [.ref (ad 0), .long (z1 + z2)] (some (.int z7.1)) z7.2 := by rw [qz7]; exact c_X10_sets l D cy ad σ (z1 + z2) hj_
          refine eb_callV (n := 1) (as := [.long (z1 + z2)]) (rest := []) X hw hl.1 0 hc (by decide) ⟨rfl, rfl, rfl⟩ (eb_goodV wi_32_2 wi_32_3 wi_32_4 wi_1_5 wi_32_5) rfl (by decide +kernel) ⟨by decide, by decide⟩ rfl rfl (Nat.le_of_ble_eq_true rfl) dX10_registers_152 ⟨by decide, by decide⟩ (st' := [.int z7.1]) rfl (fun H locs hw => ?_)
          subst hm
          exact eb_iret X hw rfl rfl rfl dX10_registers_155
        · have hm := (if_neg h6).symm.trans hm
          by_cases h8 : (σ.1 0 41) = 1
          · have hm := (if_pos h8).symm.trans hm
            refine lv_tableIn (off := 49) (tgt := 156) hx hb dX10_registers_107 (by rw [h8]; decide) (by rw [h8]; decide) (by rw [h8]; rfl) (by decide) ?_
            refine lv_aload_n hx hb dX10_registers_156 rfl (lv_at hl 2 rfl) ?_
            refine lv_lload_n hx hb dX10_registers_157 rfl (lv_at hl 1 rfl) ?_
            refine lv_lload_n hx hb dX10_registers_158 rfl (lv_at hl 0 rfl) ?_
            refine lv_ldc2 hx hb hown (hts _ (List.mem_cons_of_mem _ wi_34_12)) dX10_registers_159 ?_
            refine lv_land hx hb dX10_registers_162 ?_
            refine lv_l2i (v := (z2 &&& 63).toInt32) hx hb dX10_registers_163 rfl ?_
            refine lv_lshl (v := eb_lshl z1 ((z2 &&& 63).toInt32)) hx hb dX10_registers_164 rfl ?_
            obtain ⟨z9, qz9⟩ : ∃ t : Int32 × eb_St, t = m_X10_sets σ (eb_lshl z1 ((z2 &&& 63).toInt32)) := ⟨_, rfl⟩
            have hm : (z9.1, z9.2) = mm := by rw [qz9]; exact hm
            have jz9 : rJ z9.2 := J_X10_sets qz9.symm hj_
            have hc : eb_M l yX10_sets (Cond.code yX10_sets cX10_sets 3 (some .int) :: wsL_law) 2 43 D 18 cy rL ad σ [.ref (ad 0), .long (eb_lshl z1 ((z2 &&& 63).toInt32))] (some (.int z9.1)) z9.2 := by rw [qz9]; exact c_X10_sets l D cy ad σ (eb_lshl z1 ((z2 &&& 63).toInt32)) hj_
            refine eb_callV (n := 1) (as := [.long (eb_lshl z1 ((z2 &&& 63).toInt32))]) (rest := []) X hw hl.1 0 hc (by decide) ⟨rfl, rfl, rfl⟩ (eb_goodV wi_32_2 wi_32_3 wi_32_4 wi_1_5 wi_32_5) rfl (by decide +kernel) ⟨by decide, by decide⟩ rfl rfl (Nat.le_of_ble_eq_true rfl) dX10_registers_165 ⟨by decide, by decide⟩ (st' := [.int z9.1]) rfl (fun H locs hw => ?_)
            subst hm
            exact eb_iret X hw rfl rfl rfl dX10_registers_168
          · have hm := (if_neg h8).symm.trans hm
            by_cases h10 : (σ.1 0 41) = 2
            · have hm := (if_pos h10).symm.trans hm
              refine lv_tableIn (off := 62) (tgt := 169) hx hb dX10_registers_107 (by rw [h10]; decide) (by rw [h10]; decide) (by rw [h10]; rfl) (by decide) ?_
              refine lv_aload_n hx hb dX10_registers_169 rfl (lv_at hl 2 rfl) ?_
              refine lv_lload_n hx hb dX10_registers_170 rfl (lv_at hl 1 rfl) ?_
              refine lv_lload_n hx hb dX10_registers_171 rfl (lv_at hl 0 rfl) ?_
              refine eb_lif_ge (tgt := 180) hx hb dX10_registers_172 dX10_registers_173 (by decide) (fun h11 => ?_) (fun h11 => ?_)
              · have hm := (if_pos h11).symm.trans hm
                refine lv_lconst (v := 0) hx hb dX10_registers_180 (by decide) ?_
                obtain ⟨z12, qz12⟩ : ∃ t : Int32 × eb_St, t = m_X10_sets σ 0 := ⟨_, rfl⟩
                have hm : (z12.1, z12.2) = mm := by rw [qz12]; exact hm
                have jz12 : rJ z12.2 := J_X10_sets qz12.symm hj_
                have hc : eb_M l yX10_sets (Cond.code yX10_sets cX10_sets 3 (some .int) :: wsL_law) 2 43 D 18 cy rL ad σ [.ref (ad 0), .long 0] (some (.int z12.1)) z12.2 := by rw [qz12]; exact c_X10_sets l D cy ad σ 0 hj_
                refine eb_callV (n := 1) (as := [.long 0]) (rest := []) X hw hl.1 0 hc (by decide) ⟨rfl, rfl, rfl⟩ (eb_goodV wi_32_2 wi_32_3 wi_32_4 wi_1_5 wi_32_5) rfl (by decide +kernel) ⟨by decide, by decide⟩ rfl rfl (Nat.le_of_ble_eq_true rfl) dX10_registers_181 ⟨by decide, by decide⟩ (st' := [.int z12.1]) rfl (fun H locs hw => ?_)
                subst hm
                exact eb_iret X hw rfl rfl rfl dX10_registers_184
              · have hm := (if_neg h11).symm.trans hm
                refine lv_lconst (v := 1) hx hb dX10_registers_176 (by decide) ?_
                refine lv_goto (tgt := 181) hx hb dX10_registers_177 (by decide) ?_
                obtain ⟨z13, qz13⟩ : ∃ t : Int32 × eb_St, t = m_X10_sets σ 1 := ⟨_, rfl⟩
                have hm : (z13.1, z13.2) = mm := by rw [qz13]; exact hm
                have jz13 : rJ z13.2 := J_X10_sets qz13.symm hj_
                have hc : eb_M l yX10_sets (Cond.code yX10_sets cX10_sets 3 (some .int) :: wsL_law) 2 43 D 18 cy rL ad σ [.ref (ad 0), .long 1] (some (.int z13.1)) z13.2 := by rw [qz13]; exact c_X10_sets l D cy ad σ 1 hj_
                refine eb_callV (n := 1) (as := [.long 1]) (rest := []) X hw hl.1 0 hc (by decide) ⟨rfl, rfl, rfl⟩ (eb_goodV wi_32_2 wi_32_3 wi_32_4 wi_1_5 wi_32_5) rfl (by decide +kernel) ⟨by decide, by decide⟩ rfl rfl (Nat.le_of_ble_eq_true rfl) dX10_registers_181 ⟨by decide, by decide⟩ (st' := [.int z13.1]) rfl (fun H locs hw => ?_)
                subst hm
                exact eb_iret X hw rfl rfl rfl dX10_registers_184
            · have hm := (if_neg h10).symm.trans hm
              by_cases h14 : (σ.1 0 41) = 3
              · have hm := (if_pos h14).symm.trans hm
                refine lv_tableIn (off := 78) (tgt := 185) hx hb dX10_registers_107 (by rw [h14]; decide) (by rw [h14]; decide) (by rw [h14]; rfl) (by decide) ?_
                refine lv_aload_n hx hb dX10_registers_185 rfl (lv_at hl 2 rfl) ?_
                refine lv_lload_n hx hb dX10_registers_186 rfl (lv_at hl 1 rfl) ?_
                refine lv_lload_n hx hb dX10_registers_187 rfl (lv_at hl 0 rfl) ?_
                obtain ⟨z15, qz15⟩ : ∃ t : Bool, t = m_X10_isBelow z1 z2 := ⟨_, rfl⟩
                have hm : (if (eb_b z15) = 0 then (fun (z17 : Int32 × eb_St) => (z17.1, z17.2)) (m_X10_sets σ 0) else (fun (z18 : Int32 × eb_St) => (z18.1, z18.2)) (m_X10_sets σ 1)) = mm := by rw [qz15]; exact hm
                have hc : eb_M l yX10_isBelow (Cond.code yX10_isBelow cX10_isBelow 4 (some .boolean) :: wsL_law) 0 0 D 18 cy rL ad σ [.long z1, .long z2] (some (.int (eb_b z15))) σ := by rw [qz15]; exact c_X10_isBelow l D cy ad σ z1 z2
                refine eb_callS (n := 2) X hw hl.1 (rest := [.ref (ad 0)]) hc (eb_goodS wi_33_12 wi_33_13 wi_1_5 wi_33_14) rfl (by decide +kernel) ⟨by decide, by decide⟩ rfl rfl (Nat.le_of_ble_eq_true rfl) dX10_registers_188 ⟨by decide, by decide⟩ (st' := [.int (eb_b z15), .ref (ad 0)]) rfl (fun H locs hw => ?_)
                refine lv_if_eq (tgt := 198) hx hb dX10_registers_191 (by decide) (fun h16 => ?_) (fun h16 => ?_)
                · have hm := (if_pos h16).symm.trans hm
                  refine lv_lconst (v := 0) hx hb dX10_registers_198 (by decide) ?_
                  obtain ⟨z17, qz17⟩ : ∃ t : Int32 × eb_St, t = m_X10_sets σ 0 := ⟨_, rfl⟩
                  have hm : (z17.1, z17.2) = mm := by rw [qz17]; exact hm
                  have jz17 : rJ z17.2 := J_X10_sets qz17.symm hj_
                  have hc : eb_M l yX10_sets (Cond.code yX10_sets cX10_sets 3 (some .int) :: wsL_law) 2 43 D 18 cy rL ad σ [.ref (ad 0), .long 0] (some (.int z17.1)) z17.2 := by rw [qz17]; exact c_X10_sets l D cy ad σ 0 hj_
                  refine eb_callV (n := 1) (as := [.long 0]) (rest := []) X hw hl.1 0 hc (by decide) ⟨rfl, rfl, rfl⟩ (eb_goodV wi_32_2 wi_32_3 wi_32_4 wi_1_5 wi_32_5) rfl (by decide +kernel) ⟨by decide, by decide⟩ rfl rfl (Nat.le_of_ble_eq_true rfl) dX10_registers_199 ⟨by decide, by decide⟩ (st' := [.int z17.1]) rfl (fun H locs hw => ?_)
                  subst hm
                  exact eb_iret X hw rfl rfl rfl dX10_registers_202
                · have hm := (if_neg h16).symm.trans hm
                  refine lv_lconst (v := 1) hx hb dX10_registers_194 (by decide) ?_
                  refine lv_goto (tgt := 199) hx hb dX10_registers_195 (by decide) ?_
                  obtain ⟨z18, qz18⟩ : ∃ t : Int32 × eb_St, t = m_X10_sets σ 1 := ⟨_, rfl⟩
                  have hm : (z18.1, z18.2) = mm := by rw [qz18]; exact hm
                  have jz18 : rJ z18.2 := J_X10_sets qz18.symm hj_
                  have hc : eb_M l yX10_sets (Cond.code yX10_sets cX10_sets 3 (some .int) :: wsL_law) 2 43 D 18 cy rL ad σ [.ref (ad 0), .long 1] (some (.int z18.1)) z18.2 := by rw [qz18]; exact c_X10_sets l D cy ad σ 1 hj_
                  refine eb_callV (n := 1) (as := [.long 1]) (rest := []) X hw hl.1 0 hc (by decide) ⟨rfl, rfl, rfl⟩ (eb_goodV wi_32_2 wi_32_3 wi_32_4 wi_1_5 wi_32_5) rfl (by decide +kernel) ⟨by decide, by decide⟩ rfl rfl (Nat.le_of_ble_eq_true rfl) dX10_registers_199 ⟨by decide, by decide⟩ (st' := [.int z18.1]) rfl (fun H locs hw => ?_)
                  subst hm
                  exact eb_iret X hw rfl rfl rfl dX10_registers_202
              · have hm := (if_neg h14).symm.trans hm
                by_cases h19 : (σ.1 0 41) = 4
                · have hm := (if_pos h19).symm.trans hm
                  refine lv_tableIn (off := 96) (tgt := 203) hx hb dX10_registers_107 (by rw [h19]; decide) (by rw [h19]; decide) (by rw [h19]; rfl) (by decide) ?_
                  refine lv_aload_n hx hb dX10_registers_203 rfl (lv_at hl 2 rfl) ?_
                  refine lv_lload_n hx hb dX10_registers_204 rfl (lv_at hl 1 rfl) ?_
                  refine lv_lload_n hx hb dX10_registers_205 rfl (lv_at hl 0 rfl) ?_
                  refine lv_lxor hx hb dX10_registers_206 ?_
                  obtain ⟨z20, qz20⟩ : ∃ t : Int32 × eb_St, t = m_X10_sets σ (z1 ^^^ z2) := ⟨_, rfl⟩
                  have hm : (z20.1, z20.2) = mm := by rw [qz20]; exact hm
                  have jz20 : rJ z20.2 := J_X10_sets qz20.symm hj_
                  have hc : eb_M l yX10_sets (Cond.code yX10_sets cX10_sets 3 (some .int) :: wsL_law) 2 43 D 18 cy rL ad σ [.ref (ad 0), .long (z1 ^^^ z2)] (some (.int z20.1)) z20.2 := by rw [qz20]; exact c_X10_sets l D cy ad σ (z1 ^^^ z2) hj_
                  refine eb_callV (n := 1) (as := [.long (z1 ^^^ z2)]) (rest := []) X hw hl.1 0 hc (by decide) ⟨rfl, rfl, rfl⟩ (eb_goodV wi_32_2 wi_32_3 wi_32_4 wi_1_5 wi_32_5) rfl (by decide +kernel) ⟨by decide, by decide⟩ rfl rfl (Nat.le_of_ble_eq_true rfl) dX10_registers_207 ⟨by decide, by decide⟩ (st' := [.int z20.1]) rfl (fun H locs hw => ?_)
                  subst hm
                  exact eb_iret X hw rfl rfl rfl dX10_registers_210
                · have hm := (if_neg h19).symm.trans hm
                  by_cases h21 : (σ.1 0 41) = 5
                  · have hm := (if_pos h21).symm.trans hm
                    refine lv_tableIn (off := 104) (tgt := 211) hx hb dX10_registers_107 (by rw [h21]; decide) (by rw [h21]; decide) (by rw [h21]; rfl) (by decide) ?_
                    refine lv_aload_n hx hb dX10_registers_211 rfl (lv_at hl 2 rfl) ?_
                    refine lv_lload_n hx hb dX10_registers_212 rfl (lv_at hl 1 rfl) ?_
                    refine lv_lload_n hx hb dX10_registers_213 rfl (lv_at hl 0 rfl) ?_
                    refine lv_ldc2 hx hb hown (hts _ (List.mem_cons_of_mem _ wi_34_12)) dX10_registers_214 ?_
                    refine lv_land hx hb dX10_registers_217 ?_
                    refine lv_l2i (v := (z2 &&& 63).toInt32) hx hb dX10_registers_218 rfl ?_
                    refine lv_lushr (v := eb_lushr z1 ((z2 &&& 63).toInt32)) hx hb dX10_registers_219 rfl ?_
                    obtain ⟨z22, qz22⟩ : ∃ t : Int32 × eb_St, t = m_X10_sets σ (eb_lushr z1 ((z2 &&& 63).toInt32)) := ⟨_, rfl⟩
                    have hm : (z22.1, z22.2) = mm := by rw [qz22]; exact hm
                    have jz22 : rJ z22.2 := J_X10_sets qz22.symm hj_
                    have hc : eb_M l yX10_sets (Cond.code yX10_sets cX10_sets 3 (some .int) :: wsL_law) 2 43 D 18 cy rL ad σ [.ref (ad 0), .long (eb_lushr z1 ((z2 &&& 63).toInt32))] (some (.int z22.1)) z22.2 := by rw [qz22]; exact c_X10_sets l D cy ad σ (eb_lushr z1 ((z2 &&& 63).toInt32)) hj_
                    refine eb_callV (n := 1) (as := [.long (eb_lushr z1 ((z2 &&& 63).toInt32))]) (rest := []) X hw hl.1 0 hc (by decide) ⟨rfl, rfl, rfl⟩ (eb_goodV wi_32_2 wi_32_3 wi_32_4 wi_1_5 wi_32_5) rfl (by decide +kernel) ⟨by decide, by decide⟩ rfl rfl (Nat.le_of_ble_eq_true rfl) dX10_registers_220 ⟨by decide, by decide⟩ (st' := [.int z22.1]) rfl (fun H locs hw => ?_)
                    subst hm
                    exact eb_iret X hw rfl rfl rfl dX10_registers_223
                  · have hm := (if_neg h21).symm.trans hm
                    by_cases h23 : (σ.1 0 41) = 6
                    · have hm := (if_pos h23).symm.trans hm
                      refine lv_tableIn (off := 117) (tgt := 224) hx hb dX10_registers_107 (by rw [h23]; decide) (by rw [h23]; decide) (by rw [h23]; rfl) (by decide) ?_
                      refine lv_aload_n hx hb dX10_registers_224 rfl (lv_at hl 2 rfl) ?_
                      refine lv_lload_n hx hb dX10_registers_225 rfl (lv_at hl 1 rfl) ?_
                      refine lv_lload_n hx hb dX10_registers_226 rfl (lv_at hl 0 rfl) ?_
                      refine lv_lor hx hb dX10_registers_227 ?_
                      obtain ⟨z24, qz24⟩ : ∃ t : Int32 × eb_St, t = m_X10_sets σ (z1 ||| z2) := ⟨_, rfl⟩
                      have hm : (z24.1, z24.2) = mm := by rw [qz24]; exact hm
                      have jz24 : rJ z24.2 := J_X10_sets qz24.symm hj_
                      have hc : eb_M l yX10_sets (Cond.code yX10_sets cX10_sets 3 (some .int) :: wsL_law) 2 43 D 18 cy rL ad σ [.ref (ad 0), .long (z1 ||| z2)] (some (.int z24.1)) z24.2 := by rw [qz24]; exact c_X10_sets l D cy ad σ (z1 ||| z2) hj_
                      refine eb_callV (n := 1) (as := [.long (z1 ||| z2)]) (rest := []) X hw hl.1 0 hc (by decide) ⟨rfl, rfl, rfl⟩ (eb_goodV wi_32_2 wi_32_3 wi_32_4 wi_1_5 wi_32_5) rfl (by decide +kernel) ⟨by decide, by decide⟩ rfl rfl (Nat.le_of_ble_eq_true rfl) dX10_registers_228 ⟨by decide, by decide⟩ (st' := [.int z24.1]) rfl (fun H locs hw => ?_)
                      subst hm
                      exact eb_iret X hw rfl rfl rfl dX10_registers_231
                    · have hm := (if_neg h23).symm.trans hm
                      refine lv_tableOut (tgt := 232) hx hb dX10_registers_107 (by have qh6 := lv_neT h6 (a := 0) (by decide); have qh8 := lv_neT h8 (a := 1) (by decide); have qh10 := lv_neT h10 (a := 2) (by decide); have qh14 := lv_neT h14 (a := 3) (by decide); have qh19 := lv_neT h19 (a := 4) (by decide); have qh21 := lv_neT h21 (a := 5) (by decide); have qh23 := lv_neT h23 (a := 6) (by decide); omega) (by decide) ?_
                      refine lv_aload_n hx hb dX10_registers_232 rfl (lv_at hl 2 rfl) ?_
                      refine lv_lload_n hx hb dX10_registers_233 rfl (lv_at hl 1 rfl) ?_
                      refine lv_lload_n hx hb dX10_registers_234 rfl (lv_at hl 0 rfl) ?_
                      refine lv_land hx hb dX10_registers_235 ?_
                      obtain ⟨z25, qz25⟩ : ∃ t : Int32 × eb_St, t = m_X10_sets σ (z1 &&& z2) := ⟨_, rfl⟩
                      have hm : (z25.1, z25.2) = mm := by rw [qz25]; exact hm
                      have jz25 : rJ z25.2 := J_X10_sets qz25.symm hj_
                      have hc : eb_M l yX10_sets (Cond.code yX10_sets cX10_sets 3 (some .int) :: wsL_law) 2 43 D 18 cy rL ad σ [.ref (ad 0), .long (z1 &&& z2)] (some (.int z25.1)) z25.2 := by rw [qz25]; exact c_X10_sets l D cy ad σ (z1 &&& z2) hj_
                      refine eb_callV (n := 1) (as := [.long (z1 &&& z2)]) (rest := []) X hw hl.1 0 hc (by decide) ⟨rfl, rfl, rfl⟩ (eb_goodV wi_32_2 wi_32_3 wi_32_4 wi_1_5 wi_32_5) rfl (by decide +kernel) ⟨by decide, by decide⟩ rfl rfl (Nat.le_of_ble_eq_true rfl) dX10_registers_236 ⟨by decide, by decide⟩ (st' := [.int z25.1]) rfl (fun H locs hw => ?_)
                      subst hm
                      exact eb_iret X hw rfl rfl rfl dX10_registers_239
      · have hm := (if_neg h5).symm.trans hm
        refine lv_aload_n hx hb dX10_registers_98 rfl (lv_at hl 2 rfl) ?_
        obtain ⟨z26, qz26⟩ : ∃ t : Int32 × eb_St, t = m_X10_illegal σ := ⟨_, rfl⟩
        have hm : (z26.1, z26.2) = mm := by rw [qz26]; exact hm
        have jz26 : rJ z26.2 := J_X10_illegal qz26.symm hj_
        have hc : eb_M l yX10_illegal (Cond.code yX10_illegal cX10_illegal 1 (some .int) :: wsL_law) 1 23 D 18 cy rL ad σ [.ref (ad 0)] (some (.int z26.1)) z26.2 := by rw [qz26]; exact c_X10_illegal l D cy ad σ hj_
        refine eb_callV (n := 0) (as := []) (rest := []) X hw hl.1 0 hc (by decide) ⟨rfl, rfl, rfl⟩ (eb_goodV wi_32_23 wi_33_0 wi_33_1 wi_1_5 wi_33_2) rfl (by decide +kernel) ⟨by decide, by decide⟩ rfl rfl (Nat.le_of_ble_eq_true rfl) dX10_registers_99 ⟨by decide, by decide⟩ (st' := [.int z26.1]) rfl (fun H locs hw => ?_)
        subst hm
        exact eb_iret X hw rfl rfl rfl dX10_registers_102
    · have hm := (if_pos h4).symm.trans hm
      refine lv_aload_n hx hb dX10_registers_46 rfl (lv_at hl 2 rfl) ?_
      refine eb_get (T := TX10) X hw 0 41 (by decide) ⟨rfl, rfl, rfl⟩ (by decide) (fun _ h => List.mem_cons_of_mem _ (inlX10 _ h)) (List.mem_cons_of_mem _ wi_30_10) (v := .int (σ.1 0 41)) rfl dX10_registers_47 ?_
      refine lv_if_ne (tgt := 63) hx hb dX10_registers_50 (by decide) (fun h27 => ?_) (fun h27 => ?_)
      · have hm := (if_neg h27).symm.trans hm
        refine lv_aload_n hx hb dX10_registers_63 rfl (lv_at hl 2 rfl) ?_
        refine eb_get (T := TX10) X hw 0 41 (by decide) ⟨rfl, rfl, rfl⟩ (by decide) (fun _ h => List.mem_cons_of_mem _ (inlX10 _ h)) (List.mem_cons_of_mem _ wi_30_10) (v := .int (σ.1 0 41)) rfl dX10_registers_64 ?_
        refine lv_iconst (v := 5) hx hb dX10_registers_67 (by decide) ?_
        refine lv_icmp_ne (tgt := 86) hx hb dX10_registers_68 (by decide) (fun h28 => ?_) (fun h28 => ?_)
        · have hm := (if_neg h28).symm.trans hm
          refine lv_aload_n hx hb dX10_registers_86 rfl (lv_at hl 2 rfl) ?_
          obtain ⟨z29, qz29⟩ : ∃ t : Int32 × eb_St, t = m_X10_illegal σ := ⟨_, rfl⟩
          have hm : (z29.1, z29.2) = mm := by rw [qz29]; exact hm
          have jz29 : rJ z29.2 := J_X10_illegal qz29.symm hj_
          have hc : eb_M l yX10_illegal (Cond.code yX10_illegal cX10_illegal 1 (some .int) :: wsL_law) 1 23 D 18 cy rL ad σ [.ref (ad 0)] (some (.int z29.1)) z29.2 := by rw [qz29]; exact c_X10_illegal l D cy ad σ hj_
          refine eb_callV (n := 0) (as := []) (rest := []) X hw hl.1 0 hc (by decide) ⟨rfl, rfl, rfl⟩ (eb_goodV wi_32_23 wi_33_0 wi_33_1 wi_1_5 wi_33_2) rfl (by decide +kernel) ⟨by decide, by decide⟩ rfl rfl (Nat.le_of_ble_eq_true rfl) dX10_registers_87 ⟨by decide, by decide⟩ (st' := [.int z29.1]) rfl (fun H locs hw => ?_)
          subst hm
          exact eb_iret X hw rfl rfl rfl dX10_registers_90
        · have hm := (if_pos h28).symm.trans hm
          refine lv_aload_n hx hb dX10_registers_71 rfl (lv_at hl 2 rfl) ?_
          refine lv_lload_n hx hb dX10_registers_72 rfl (lv_at hl 1 rfl) ?_
          refine lv_lload_n hx hb dX10_registers_73 rfl (lv_at hl 0 rfl) ?_
          refine lv_ldc2 hx hb hown (hts _ (List.mem_cons_of_mem _ wi_34_12)) dX10_registers_74 ?_
          refine lv_land hx hb dX10_registers_77 ?_
          refine lv_l2i (v := (z2 &&& 63).toInt32) hx hb dX10_registers_78 rfl ?_
          refine lv_lshr (v := eb_lshr z1 ((z2 &&& 63).toInt32)) hx hb dX10_registers_79 rfl ?_
          obtain ⟨z30, qz30⟩ : ∃ t : Int32 × eb_St, t = m_X10_sets σ (eb_lshr z1 ((z2 &&& 63).toInt32)) := ⟨_, rfl⟩
          have hm : (z30.1, z30.2) = mm := by rw [qz30]; exact hm
          have jz30 : rJ z30.2 := J_X10_sets qz30.symm hj_
          have hc : eb_M l yX10_sets (Cond.code yX10_sets cX10_sets 3 (some .int) :: wsL_law) 2 43 D 18 cy rL ad σ [.ref (ad 0), .long (eb_lshr z1 ((z2 &&& 63).toInt32))] (some (.int z30.1)) z30.2 := by rw [qz30]; exact c_X10_sets l D cy ad σ (eb_lshr z1 ((z2 &&& 63).toInt32)) hj_
          refine eb_callV (n := 1) (as := [.long (eb_lshr z1 ((z2 &&& 63).toInt32))]) (rest := []) X hw hl.1 0 hc (by decide) ⟨rfl, rfl, rfl⟩ (eb_goodV wi_32_2 wi_32_3 wi_32_4 wi_1_5 wi_32_5) rfl (by decide +kernel) ⟨by decide, by decide⟩ rfl rfl (Nat.le_of_ble_eq_true rfl) dX10_registers_80 ⟨by decide, by decide⟩ (st' := [.int z30.1]) rfl (fun H locs hw => ?_)
          refine lv_goto (tgt := 90) hx hb dX10_registers_83 (by decide) ?_
          subst hm
          exact eb_iret X hw rfl rfl rfl dX10_registers_90
      · have hm := (if_pos h27).symm.trans hm
        refine lv_aload_n hx hb dX10_registers_53 rfl (lv_at hl 2 rfl) ?_
        refine lv_lload_n hx hb dX10_registers_54 rfl (lv_at hl 1 rfl) ?_
        refine lv_lload_n hx hb dX10_registers_55 rfl (lv_at hl 0 rfl) ?_
        refine lv_lsub hx hb dX10_registers_56 ?_
        obtain ⟨z31, qz31⟩ : ∃ t : Int32 × eb_St, t = m_X10_sets σ (z1 - z2) := ⟨_, rfl⟩
        have hm : (z31.1, z31.2) = mm := by rw [qz31]; exact hm
        have jz31 : rJ z31.2 := J_X10_sets qz31.symm hj_
        have hc : eb_M l yX10_sets (Cond.code yX10_sets cX10_sets 3 (some .int) :: wsL_law) 2 43 D 18 cy rL ad σ [.ref (ad 0), .long (z1 - z2)] (some (.int z31.1)) z31.2 := by rw [qz31]; exact c_X10_sets l D cy ad σ (z1 - z2) hj_
        refine eb_callV (n := 1) (as := [.long (z1 - z2)]) (rest := []) X hw hl.1 0 hc (by decide) ⟨rfl, rfl, rfl⟩ (eb_goodV wi_32_2 wi_32_3 wi_32_4 wi_1_5 wi_32_5) rfl (by decide +kernel) ⟨by decide, by decide⟩ rfl rfl (Nat.le_of_ble_eq_true rfl) dX10_registers_57 ⟨by decide, by decide⟩ (st' := [.int z31.1]) rfl (fun H locs hw => ?_)
        refine lv_goto (tgt := 90) hx hb dX10_registers_60 (by decide) ?_
        subst hm
        exact eb_iret X hw rfl rfl rfl dX10_registers_90
  · have hm := (if_pos h3).symm.trans hm
    refine lv_aload_n hx hb dX10_registers_26 rfl (lv_at hl 2 rfl) ?_
    refine lv_aload_n hx hb dX10_registers_27 rfl (lv_at hl 2 rfl) ?_
    refine lv_lload_n hx hb dX10_registers_28 rfl (lv_at hl 1 rfl) ?_
    refine lv_lload_n hx hb dX10_registers_29 rfl (lv_at hl 0 rfl) ?_
    obtain ⟨z32, qz32⟩ : ∃ t : Int64, t = m_X10_product σ z1 z2 := ⟨_, rfl⟩
    have hm : (fun (z33 : Int32 × eb_St) => (z33.1, z33.2)) (m_X10_sets σ z32) = mm := by rw [qz32]; exact hm
    have hc : eb_M l yX10_product (Cond.code yX10_product cX10_product 5 (some .long) :: wsL_law) 2 48 D 18 cy rL ad σ [.ref (ad 0), .long z1, .long z2] (some (.long z32)) σ := by rw [qz32]; exact c_X10_product l D cy ad σ z1 z2
    refine eb_callV (n := 2) (as := [.long z1, .long z2]) (rest := [.ref (ad 0)]) X hw hl.1 0 hc (by decide) ⟨rfl, rfl, rfl⟩ (eb_goodV wi_34_13 wi_34_14 wi_34_15 wi_1_5 wi_34_16) rfl (by decide +kernel) ⟨by decide, by decide⟩ rfl rfl (Nat.le_of_ble_eq_true rfl) dX10_registers_30 ⟨by decide, by decide⟩ (st' := [.long z32, .ref (ad 0)]) rfl (fun H locs hw => ?_)
    obtain ⟨z33, qz33⟩ : ∃ t : Int32 × eb_St, t = m_X10_sets σ z32 := ⟨_, rfl⟩
    have hm : (z33.1, z33.2) = mm := by rw [qz33]; exact hm
    have jz33 : rJ z33.2 := J_X10_sets qz33.symm hj_
    have hc : eb_M l yX10_sets (Cond.code yX10_sets cX10_sets 3 (some .int) :: wsL_law) 2 43 D 18 cy rL ad σ [.ref (ad 0), .long z32] (some (.int z33.1)) z33.2 := by rw [qz33]; exact c_X10_sets l D cy ad σ z32 hj_
    refine eb_callV (n := 1) (as := [.long z32]) (rest := []) X hw hl.1 0 hc (by decide) ⟨rfl, rfl, rfl⟩ (eb_goodV wi_32_2 wi_32_3 wi_32_4 wi_1_5 wi_32_5) rfl (by decide +kernel) ⟨by decide, by decide⟩ rfl rfl (Nat.le_of_ble_eq_true rfl) dX10_registers_33 ⟨by decide, by decide⟩ (st' := [.int z33.1]) rfl (fun H locs hw => ?_)
    subst hm
    exact eb_iret X hw rfl rfl rfl dX10_registers_36

theorem J_X10_registersW {σ : eb_St}  {mm : Int32 × eb_St} (hm : m_X10_registersW σ = mm) (hj_ : rJ σ) : rJ mm.2 := by
  have hm : (fun (z1 : Int64) => (fun (x2 : Int32) => (fun (z3 : Int64) => (fun (x4 : Int32) => (fun (x5 : Int64) => (fun (x6 : Int64) => (if (σ.1 0 42) = 1 then (if (σ.1 0 41) = 0 then (fun (z24 : Int32 × eb_St) => (z24.1, z24.2)) (m_X10_sets σ ((x2 * x4).toInt64)) else if (σ.1 0 41) = 1 then (fun (z26 : Int32 × eb_St) => (z26.1, z26.2)) (m_X10_illegal σ) else if (σ.1 0 41) = 2 then (fun (z28 : Int32 × eb_St) => (z28.1, z28.2)) (m_X10_illegal σ) else if (σ.1 0 41) = 3 then (fun (z30 : Int32 × eb_St) => (z30.1, z30.2)) (m_X10_illegal σ) else if (σ.1 0 41) = 4 then (if x4 = 0 then (fun (z36 : Int32 × eb_St) => (z36.1, z36.2)) (m_X10_sets σ (-1)) else (if x4 = (-1) then (fun (z35 : Int32 × eb_St) => (z35.1, z35.2)) (m_X10_sets σ ((-x2).toInt64)) else (fun (z34 : Int32 × eb_St) => (z34.1, z34.2)) (m_X10_sets σ ((x2 / x4).toInt64)))) else if (σ.1 0 41) = 5 then (if x4 = 0 then (fun (z40 : Int32 × eb_St) => (z40.1, z40.2)) (m_X10_sets σ (-1)) else (fun (z39 : Int32 × eb_St) => (z39.1, z39.2)) (m_X10_sets σ (((x5 / x6).toInt32).toInt64))) else if (σ.1 0 41) = 6 then (if x4 = 0 then (fun (z46 : Int32 × eb_St) => (z46.1, z46.2)) (m_X10_sets σ x2.toInt64) else (if x4 = (-1) then (fun (z45 : Int32 × eb_St) => (z45.1, z45.2)) (m_X10_sets σ 0) else (fun (z44 : Int32 × eb_St) => (z44.1, z44.2)) (m_X10_sets σ ((x2 - x2 / x4 * x4).toInt64)))) else if (σ.1 0 41) = 7 then (if x4 = 0 then (fun (z50 : Int32 × eb_St) => (z50.1, z50.2)) (m_X10_sets σ x2.toInt64) else (fun (z49 : Int32 × eb_St) => (z49.1, z49.2)) (m_X10_sets σ (((x5 - x5 / x6 * x6).toInt32).toInt64))) else (fun (z51 : Int32 × eb_St) => (z51.1, z51.2)) (m_X10_illegal σ)) else (if (σ.1 0 42) = 32 then (if (σ.1 0 41) = 0 then (fun (z22 : Int32 × eb_St) => (z22.1, z22.2)) (m_X10_sets σ ((x2 - x4).toInt64)) else (if (σ.1 0 41) = 5 then (fun (z21 : Int32 × eb_St) => (z21.1, z21.2)) (m_X10_sets σ ((x2 >>> ((x4 &&& 31) &&& 31)).toInt64)) else (fun (z20 : Int32 × eb_St) => (z20.1, z20.2)) (m_X10_illegal σ))) else (if (σ.1 0 42) = 0 then (if (σ.1 0 41) = 0 then (fun (z16 : Int32 × eb_St) => (z16.1, z16.2)) (m_X10_sets σ ((x2 + x4).toInt64)) else (if (σ.1 0 41) = 1 then (fun (z15 : Int32 × eb_St) => (z15.1, z15.2)) (m_X10_sets σ ((x2 <<< ((x4 &&& 31) &&& 31)).toInt64)) else (if (σ.1 0 41) = 5 then (fun (z14 : Int32 × eb_St) => (z14.1, z14.2)) (m_X10_sets σ ((eb_iushr x2 (x4 &&& 31)).toInt64)) else (fun (z13 : Int32 × eb_St) => (z13.1, z13.2)) (m_X10_illegal σ)))) else (fun (z17 : Int32 × eb_St) => (z17.1, z17.2)) (m_X10_illegal σ))))) (x4.toInt64 &&& 4294967295)) (x2.toInt64 &&& 4294967295)) (z3.toInt32)) (m_X10_x σ (σ.1 0 40))) (z1.toInt32)) (m_X10_x σ (σ.1 0 39)) = mm := hm
  obtain ⟨z1, qz1⟩ : ∃ t : Int64, t = m_X10_x σ (σ.1 0 39) := ⟨_, rfl⟩
  have hm : (fun (x2 : Int32) => (fun (z3 : Int64) => (fun (x4 : Int32) => (fun (x5 : Int64) => (fun (x6 : Int64) => (if (σ.1 0 42) = 1 then (if (σ.1 0 41) = 0 then (fun (z24 : Int32 × eb_St) => (z24.1, z24.2)) (m_X10_sets σ ((x2 * x4).toInt64)) else if (σ.1 0 41) = 1 then (fun (z26 : Int32 × eb_St) => (z26.1, z26.2)) (m_X10_illegal σ) else if (σ.1 0 41) = 2 then (fun (z28 : Int32 × eb_St) => (z28.1, z28.2)) (m_X10_illegal σ) else if (σ.1 0 41) = 3 then (fun (z30 : Int32 × eb_St) => (z30.1, z30.2)) (m_X10_illegal σ) else if (σ.1 0 41) = 4 then (if x4 = 0 then (fun (z36 : Int32 × eb_St) => (z36.1, z36.2)) (m_X10_sets σ (-1)) else (if x4 = (-1) then (fun (z35 : Int32 × eb_St) => (z35.1, z35.2)) (m_X10_sets σ ((-x2).toInt64)) else (fun (z34 : Int32 × eb_St) => (z34.1, z34.2)) (m_X10_sets σ ((x2 / x4).toInt64)))) else if (σ.1 0 41) = 5 then (if x4 = 0 then (fun (z40 : Int32 × eb_St) => (z40.1, z40.2)) (m_X10_sets σ (-1)) else (fun (z39 : Int32 × eb_St) => (z39.1, z39.2)) (m_X10_sets σ (((x5 / x6).toInt32).toInt64))) else if (σ.1 0 41) = 6 then (if x4 = 0 then (fun (z46 : Int32 × eb_St) => (z46.1, z46.2)) (m_X10_sets σ x2.toInt64) else (if x4 = (-1) then (fun (z45 : Int32 × eb_St) => (z45.1, z45.2)) (m_X10_sets σ 0) else (fun (z44 : Int32 × eb_St) => (z44.1, z44.2)) (m_X10_sets σ ((x2 - x2 / x4 * x4).toInt64)))) else if (σ.1 0 41) = 7 then (if x4 = 0 then (fun (z50 : Int32 × eb_St) => (z50.1, z50.2)) (m_X10_sets σ x2.toInt64) else (fun (z49 : Int32 × eb_St) => (z49.1, z49.2)) (m_X10_sets σ (((x5 - x5 / x6 * x6).toInt32).toInt64))) else (fun (z51 : Int32 × eb_St) => (z51.1, z51.2)) (m_X10_illegal σ)) else (if (σ.1 0 42) = 32 then (if (σ.1 0 41) = 0 then (fun (z22 : Int32 × eb_St) => (z22.1, z22.2)) (m_X10_sets σ ((x2 - x4).toInt64)) else (if (σ.1 0 41) = 5 then (fun (z21 : Int32 × eb_St) => (z21.1, z21.2)) (m_X10_sets σ ((x2 >>> ((x4 &&& 31) &&& 31)).toInt64)) else (fun (z20 : Int32 × eb_St) => (z20.1, z20.2)) (m_X10_illegal σ))) else (if (σ.1 0 42) = 0 then (if (σ.1 0 41) = 0 then (fun (z16 : Int32 × eb_St) => (z16.1, z16.2)) (m_X10_sets σ ((x2 + x4).toInt64)) else (if (σ.1 0 41) = 1 then (fun (z15 : Int32 × eb_St) => (z15.1, z15.2)) (m_X10_sets σ ((x2 <<< ((x4 &&& 31) &&& 31)).toInt64)) else (if (σ.1 0 41) = 5 then (fun (z14 : Int32 × eb_St) => (z14.1, z14.2)) (m_X10_sets σ ((eb_iushr x2 (x4 &&& 31)).toInt64)) else (fun (z13 : Int32 × eb_St) => (z13.1, z13.2)) (m_X10_illegal σ)))) else (fun (z17 : Int32 × eb_St) => (z17.1, z17.2)) (m_X10_illegal σ))))) (x4.toInt64 &&& 4294967295)) (x2.toInt64 &&& 4294967295)) (z3.toInt32)) (m_X10_x σ (σ.1 0 40))) (z1.toInt32) = mm := by rw [qz1]; exact hm
  obtain ⟨x2, ex2⟩ : ∃ z : Int32, z = z1.toInt32 := ⟨_, rfl⟩
  have hm : (fun (z3 : Int64) => (fun (x4 : Int32) => (fun (x5 : Int64) => (fun (x6 : Int64) => (if (σ.1 0 42) = 1 then (if (σ.1 0 41) = 0 then (fun (z24 : Int32 × eb_St) => (z24.1, z24.2)) (m_X10_sets σ ((x2 * x4).toInt64)) else if (σ.1 0 41) = 1 then (fun (z26 : Int32 × eb_St) => (z26.1, z26.2)) (m_X10_illegal σ) else if (σ.1 0 41) = 2 then (fun (z28 : Int32 × eb_St) => (z28.1, z28.2)) (m_X10_illegal σ) else if (σ.1 0 41) = 3 then (fun (z30 : Int32 × eb_St) => (z30.1, z30.2)) (m_X10_illegal σ) else if (σ.1 0 41) = 4 then (if x4 = 0 then (fun (z36 : Int32 × eb_St) => (z36.1, z36.2)) (m_X10_sets σ (-1)) else (if x4 = (-1) then (fun (z35 : Int32 × eb_St) => (z35.1, z35.2)) (m_X10_sets σ ((-x2).toInt64)) else (fun (z34 : Int32 × eb_St) => (z34.1, z34.2)) (m_X10_sets σ ((x2 / x4).toInt64)))) else if (σ.1 0 41) = 5 then (if x4 = 0 then (fun (z40 : Int32 × eb_St) => (z40.1, z40.2)) (m_X10_sets σ (-1)) else (fun (z39 : Int32 × eb_St) => (z39.1, z39.2)) (m_X10_sets σ (((x5 / x6).toInt32).toInt64))) else if (σ.1 0 41) = 6 then (if x4 = 0 then (fun (z46 : Int32 × eb_St) => (z46.1, z46.2)) (m_X10_sets σ x2.toInt64) else (if x4 = (-1) then (fun (z45 : Int32 × eb_St) => (z45.1, z45.2)) (m_X10_sets σ 0) else (fun (z44 : Int32 × eb_St) => (z44.1, z44.2)) (m_X10_sets σ ((x2 - x2 / x4 * x4).toInt64)))) else if (σ.1 0 41) = 7 then (if x4 = 0 then (fun (z50 : Int32 × eb_St) => (z50.1, z50.2)) (m_X10_sets σ x2.toInt64) else (fun (z49 : Int32 × eb_St) => (z49.1, z49.2)) (m_X10_sets σ (((x5 - x5 / x6 * x6).toInt32).toInt64))) else (fun (z51 : Int32 × eb_St) => (z51.1, z51.2)) (m_X10_illegal σ)) else (if (σ.1 0 42) = 32 then (if (σ.1 0 41) = 0 then (fun (z22 : Int32 × eb_St) => (z22.1, z22.2)) (m_X10_sets σ ((x2 - x4).toInt64)) else (if (σ.1 0 41) = 5 then (fun (z21 : Int32 × eb_St) => (z21.1, z21.2)) (m_X10_sets σ ((x2 >>> ((x4 &&& 31) &&& 31)).toInt64)) else (fun (z20 : Int32 × eb_St) => (z20.1, z20.2)) (m_X10_illegal σ))) else (if (σ.1 0 42) = 0 then (if (σ.1 0 41) = 0 then (fun (z16 : Int32 × eb_St) => (z16.1, z16.2)) (m_X10_sets σ ((x2 + x4).toInt64)) else (if (σ.1 0 41) = 1 then (fun (z15 : Int32 × eb_St) => (z15.1, z15.2)) (m_X10_sets σ ((x2 <<< ((x4 &&& 31) &&& 31)).toInt64)) else (if (σ.1 0 41) = 5 then (fun (z14 : Int32 × eb_St) => (z14.1, z14.2)) (m_X10_sets σ ((eb_iushr x2 (x4 &&& 31)).toInt64)) else (fun (z13 : Int32 × eb_St) => (z13.1, z13.2)) (m_X10_illegal σ)))) else (fun (z17 : Int32 × eb_St) => (z17.1, z17.2)) (m_X10_illegal σ))))) (x4.toInt64 &&& 4294967295)) (x2.toInt64 &&& 4294967295)) (z3.toInt32)) (m_X10_x σ (σ.1 0 40)) = mm := by rw [ex2]; exact hm
  obtain ⟨z3, qz3⟩ : ∃ t : Int64, t = m_X10_x σ (σ.1 0 40) := ⟨_, rfl⟩
  have hm : (fun (x4 : Int32) => (fun (x5 : Int64) => (fun (x6 : Int64) => (if (σ.1 0 42) = 1 then (if (σ.1 0 41) = 0 then (fun (z24 : Int32 × eb_St) => (z24.1, z24.2)) (m_X10_sets σ ((x2 * x4).toInt64)) else if (σ.1 0 41) = 1 then (fun (z26 : Int32 × eb_St) => (z26.1, z26.2)) (m_X10_illegal σ) else if (σ.1 0 41) = 2 then (fun (z28 : Int32 × eb_St) => (z28.1, z28.2)) (m_X10_illegal σ) else if (σ.1 0 41) = 3 then (fun (z30 : Int32 × eb_St) => (z30.1, z30.2)) (m_X10_illegal σ) else if (σ.1 0 41) = 4 then (if x4 = 0 then (fun (z36 : Int32 × eb_St) => (z36.1, z36.2)) (m_X10_sets σ (-1)) else (if x4 = (-1) then (fun (z35 : Int32 × eb_St) => (z35.1, z35.2)) (m_X10_sets σ ((-x2).toInt64)) else (fun (z34 : Int32 × eb_St) => (z34.1, z34.2)) (m_X10_sets σ ((x2 / x4).toInt64)))) else if (σ.1 0 41) = 5 then (if x4 = 0 then (fun (z40 : Int32 × eb_St) => (z40.1, z40.2)) (m_X10_sets σ (-1)) else (fun (z39 : Int32 × eb_St) => (z39.1, z39.2)) (m_X10_sets σ (((x5 / x6).toInt32).toInt64))) else if (σ.1 0 41) = 6 then (if x4 = 0 then (fun (z46 : Int32 × eb_St) => (z46.1, z46.2)) (m_X10_sets σ x2.toInt64) else (if x4 = (-1) then (fun (z45 : Int32 × eb_St) => (z45.1, z45.2)) (m_X10_sets σ 0) else (fun (z44 : Int32 × eb_St) => (z44.1, z44.2)) (m_X10_sets σ ((x2 - x2 / x4 * x4).toInt64)))) else if (σ.1 0 41) = 7 then (if x4 = 0 then (fun (z50 : Int32 × eb_St) => (z50.1, z50.2)) (m_X10_sets σ x2.toInt64) else (fun (z49 : Int32 × eb_St) => (z49.1, z49.2)) (m_X10_sets σ (((x5 - x5 / x6 * x6).toInt32).toInt64))) else (fun (z51 : Int32 × eb_St) => (z51.1, z51.2)) (m_X10_illegal σ)) else (if (σ.1 0 42) = 32 then (if (σ.1 0 41) = 0 then (fun (z22 : Int32 × eb_St) => (z22.1, z22.2)) (m_X10_sets σ ((x2 - x4).toInt64)) else (if (σ.1 0 41) = 5 then (fun (z21 : Int32 × eb_St) => (z21.1, z21.2)) (m_X10_sets σ ((x2 >>> ((x4 &&& 31) &&& 31)).toInt64)) else (fun (z20 : Int32 × eb_St) => (z20.1, z20.2)) (m_X10_illegal σ))) else (if (σ.1 0 42) = 0 then (if (σ.1 0 41) = 0 then (fun (z16 : Int32 × eb_St) => (z16.1, z16.2)) (m_X10_sets σ ((x2 + x4).toInt64)) else (if (σ.1 0 41) = 1 then (fun (z15 : Int32 × eb_St) => (z15.1, z15.2)) (m_X10_sets σ ((x2 <<< ((x4 &&& 31) &&& 31)).toInt64)) else (if (σ.1 0 41) = 5 then (fun (z14 : Int32 × eb_St) => (z14.1, z14.2)) (m_X10_sets σ ((eb_iushr x2 (x4 &&& 31)).toInt64)) else (fun (z13 : Int32 × eb_St) => (z13.1, z13.2)) (m_X10_illegal σ)))) else (fun (z17 : Int32 × eb_St) => (z17.1, z17.2)) (m_X10_illegal σ))))) (x4.toInt64 &&& 4294967295)) (x2.toInt64 &&& 4294967295)) (z3.toInt32) = mm := by rw [qz3]; exact hm
  obtain ⟨x4, ex4⟩ : ∃ z : Int32, z = z3.toInt32 := ⟨_, rfl⟩
  have hm : (fun (x5 : Int64) => (fun (x6 : Int64) => (if (σ.1 0 42) = 1 then (if (σ.1 0 41) = 0 then (fun (z24 : Int32 × eb_St) => (z24.1, z24.2)) (m_X10_sets σ ((x2 * x4).toInt64)) else if (σ.1 0 41) = 1 then (fun (z26 : Int32 × eb_St) => (z26.1, z26.2)) (m_X10_illegal σ) else if (σ.1 0 41) = 2 then (fun (z28 : Int32 × eb_St) => (z28.1, z28.2)) (m_X10_illegal σ) else if (σ.1 0 41) = 3 then (fun (z30 : Int32 × eb_St) => (z30.1, z30.2)) (m_X10_illegal σ) else if (σ.1 0 41) = 4 then (if x4 = 0 then (fun (z36 : Int32 × eb_St) => (z36.1, z36.2)) (m_X10_sets σ (-1)) else (if x4 = (-1) then (fun (z35 : Int32 × eb_St) => (z35.1, z35.2)) (m_X10_sets σ ((-x2).toInt64)) else (fun (z34 : Int32 × eb_St) => (z34.1, z34.2)) (m_X10_sets σ ((x2 / x4).toInt64)))) else if (σ.1 0 41) = 5 then (if x4 = 0 then (fun (z40 : Int32 × eb_St) => (z40.1, z40.2)) (m_X10_sets σ (-1)) else (fun (z39 : Int32 × eb_St) => (z39.1, z39.2)) (m_X10_sets σ (((x5 / x6).toInt32).toInt64))) else if (σ.1 0 41) = 6 then (if x4 = 0 then (fun (z46 : Int32 × eb_St) => (z46.1, z46.2)) (m_X10_sets σ x2.toInt64) else (if x4 = (-1) then (fun (z45 : Int32 × eb_St) => (z45.1, z45.2)) (m_X10_sets σ 0) else (fun (z44 : Int32 × eb_St) => (z44.1, z44.2)) (m_X10_sets σ ((x2 - x2 / x4 * x4).toInt64)))) else if (σ.1 0 41) = 7 then (if x4 = 0 then (fun (z50 : Int32 × eb_St) => (z50.1, z50.2)) (m_X10_sets σ x2.toInt64) else (fun (z49 : Int32 × eb_St) => (z49.1, z49.2)) (m_X10_sets σ (((x5 - x5 / x6 * x6).toInt32).toInt64))) else (fun (z51 : Int32 × eb_St) => (z51.1, z51.2)) (m_X10_illegal σ)) else (if (σ.1 0 42) = 32 then (if (σ.1 0 41) = 0 then (fun (z22 : Int32 × eb_St) => (z22.1, z22.2)) (m_X10_sets σ ((x2 - x4).toInt64)) else (if (σ.1 0 41) = 5 then (fun (z21 : Int32 × eb_St) => (z21.1, z21.2)) (m_X10_sets σ ((x2 >>> ((x4 &&& 31) &&& 31)).toInt64)) else (fun (z20 : Int32 × eb_St) => (z20.1, z20.2)) (m_X10_illegal σ))) else (if (σ.1 0 42) = 0 then (if (σ.1 0 41) = 0 then (fun (z16 : Int32 × eb_St) => (z16.1, z16.2)) (m_X10_sets σ ((x2 + x4).toInt64)) else (if (σ.1 0 41) = 1 then (fun (z15 : Int32 × eb_St) => (z15.1, z15.2)) (m_X10_sets σ ((x2 <<< ((x4 &&& 31) &&& 31)).toInt64)) else (if (σ.1 0 41) = 5 then (fun (z14 : Int32 × eb_St) => (z14.1, z14.2)) (m_X10_sets σ ((eb_iushr x2 (x4 &&& 31)).toInt64)) else (fun (z13 : Int32 × eb_St) => (z13.1, z13.2)) (m_X10_illegal σ)))) else (fun (z17 : Int32 × eb_St) => (z17.1, z17.2)) (m_X10_illegal σ))))) (x4.toInt64 &&& 4294967295)) (x2.toInt64 &&& 4294967295) = mm := by rw [ex4]; exact hm
  obtain ⟨x5, ex5⟩ : ∃ z : Int64, z = x2.toInt64 &&& 4294967295 := ⟨_, rfl⟩
  have hm : (fun (x6 : Int64) => (if (σ.1 0 42) = 1 then (if (σ.1 0 41) = 0 then (fun (z24 : Int32 × eb_St) => (z24.1, z24.2)) (m_X10_sets σ ((x2 * x4).toInt64)) else if (σ.1 0 41) = 1 then (fun (z26 : Int32 × eb_St) => (z26.1, z26.2)) (m_X10_illegal σ) else if (σ.1 0 41) = 2 then (fun (z28 : Int32 × eb_St) => (z28.1, z28.2)) (m_X10_illegal σ) else if (σ.1 0 41) = 3 then (fun (z30 : Int32 × eb_St) => (z30.1, z30.2)) (m_X10_illegal σ) else if (σ.1 0 41) = 4 then (if x4 = 0 then (fun (z36 : Int32 × eb_St) => (z36.1, z36.2)) (m_X10_sets σ (-1)) else (if x4 = (-1) then (fun (z35 : Int32 × eb_St) => (z35.1, z35.2)) (m_X10_sets σ ((-x2).toInt64)) else (fun (z34 : Int32 × eb_St) => (z34.1, z34.2)) (m_X10_sets σ ((x2 / x4).toInt64)))) else if (σ.1 0 41) = 5 then (if x4 = 0 then (fun (z40 : Int32 × eb_St) => (z40.1, z40.2)) (m_X10_sets σ (-1)) else (fun (z39 : Int32 × eb_St) => (z39.1, z39.2)) (m_X10_sets σ (((x5 / x6).toInt32).toInt64))) else if (σ.1 0 41) = 6 then (if x4 = 0 then (fun (z46 : Int32 × eb_St) => (z46.1, z46.2)) (m_X10_sets σ x2.toInt64) else (if x4 = (-1) then (fun (z45 : Int32 × eb_St) => (z45.1, z45.2)) (m_X10_sets σ 0) else (fun (z44 : Int32 × eb_St) => (z44.1, z44.2)) (m_X10_sets σ ((x2 - x2 / x4 * x4).toInt64)))) else if (σ.1 0 41) = 7 then (if x4 = 0 then (fun (z50 : Int32 × eb_St) => (z50.1, z50.2)) (m_X10_sets σ x2.toInt64) else (fun (z49 : Int32 × eb_St) => (z49.1, z49.2)) (m_X10_sets σ (((x5 - x5 / x6 * x6).toInt32).toInt64))) else (fun (z51 : Int32 × eb_St) => (z51.1, z51.2)) (m_X10_illegal σ)) else (if (σ.1 0 42) = 32 then (if (σ.1 0 41) = 0 then (fun (z22 : Int32 × eb_St) => (z22.1, z22.2)) (m_X10_sets σ ((x2 - x4).toInt64)) else (if (σ.1 0 41) = 5 then (fun (z21 : Int32 × eb_St) => (z21.1, z21.2)) (m_X10_sets σ ((x2 >>> ((x4 &&& 31) &&& 31)).toInt64)) else (fun (z20 : Int32 × eb_St) => (z20.1, z20.2)) (m_X10_illegal σ))) else (if (σ.1 0 42) = 0 then (if (σ.1 0 41) = 0 then (fun (z16 : Int32 × eb_St) => (z16.1, z16.2)) (m_X10_sets σ ((x2 + x4).toInt64)) else (if (σ.1 0 41) = 1 then (fun (z15 : Int32 × eb_St) => (z15.1, z15.2)) (m_X10_sets σ ((x2 <<< ((x4 &&& 31) &&& 31)).toInt64)) else (if (σ.1 0 41) = 5 then (fun (z14 : Int32 × eb_St) => (z14.1, z14.2)) (m_X10_sets σ ((eb_iushr x2 (x4 &&& 31)).toInt64)) else (fun (z13 : Int32 × eb_St) => (z13.1, z13.2)) (m_X10_illegal σ)))) else (fun (z17 : Int32 × eb_St) => (z17.1, z17.2)) (m_X10_illegal σ))))) (x4.toInt64 &&& 4294967295) = mm := by rw [ex5]; exact hm
  obtain ⟨x6, ex6⟩ : ∃ z : Int64, z = x4.toInt64 &&& 4294967295 := ⟨_, rfl⟩
  have hm : (if (σ.1 0 42) = 1 then (if (σ.1 0 41) = 0 then (fun (z24 : Int32 × eb_St) => (z24.1, z24.2)) (m_X10_sets σ ((x2 * x4).toInt64)) else if (σ.1 0 41) = 1 then (fun (z26 : Int32 × eb_St) => (z26.1, z26.2)) (m_X10_illegal σ) else if (σ.1 0 41) = 2 then (fun (z28 : Int32 × eb_St) => (z28.1, z28.2)) (m_X10_illegal σ) else if (σ.1 0 41) = 3 then (fun (z30 : Int32 × eb_St) => (z30.1, z30.2)) (m_X10_illegal σ) else if (σ.1 0 41) = 4 then (if x4 = 0 then (fun (z36 : Int32 × eb_St) => (z36.1, z36.2)) (m_X10_sets σ (-1)) else (if x4 = (-1) then (fun (z35 : Int32 × eb_St) => (z35.1, z35.2)) (m_X10_sets σ ((-x2).toInt64)) else (fun (z34 : Int32 × eb_St) => (z34.1, z34.2)) (m_X10_sets σ ((x2 / x4).toInt64)))) else if (σ.1 0 41) = 5 then (if x4 = 0 then (fun (z40 : Int32 × eb_St) => (z40.1, z40.2)) (m_X10_sets σ (-1)) else (fun (z39 : Int32 × eb_St) => (z39.1, z39.2)) (m_X10_sets σ (((x5 / x6).toInt32).toInt64))) else if (σ.1 0 41) = 6 then (if x4 = 0 then (fun (z46 : Int32 × eb_St) => (z46.1, z46.2)) (m_X10_sets σ x2.toInt64) else (if x4 = (-1) then (fun (z45 : Int32 × eb_St) => (z45.1, z45.2)) (m_X10_sets σ 0) else (fun (z44 : Int32 × eb_St) => (z44.1, z44.2)) (m_X10_sets σ ((x2 - x2 / x4 * x4).toInt64)))) else if (σ.1 0 41) = 7 then (if x4 = 0 then (fun (z50 : Int32 × eb_St) => (z50.1, z50.2)) (m_X10_sets σ x2.toInt64) else (fun (z49 : Int32 × eb_St) => (z49.1, z49.2)) (m_X10_sets σ (((x5 - x5 / x6 * x6).toInt32).toInt64))) else (fun (z51 : Int32 × eb_St) => (z51.1, z51.2)) (m_X10_illegal σ)) else (if (σ.1 0 42) = 32 then (if (σ.1 0 41) = 0 then (fun (z22 : Int32 × eb_St) => (z22.1, z22.2)) (m_X10_sets σ ((x2 - x4).toInt64)) else (if (σ.1 0 41) = 5 then (fun (z21 : Int32 × eb_St) => (z21.1, z21.2)) (m_X10_sets σ ((x2 >>> ((x4 &&& 31) &&& 31)).toInt64)) else (fun (z20 : Int32 × eb_St) => (z20.1, z20.2)) (m_X10_illegal σ))) else (if (σ.1 0 42) = 0 then (if (σ.1 0 41) = 0 then (fun (z16 : Int32 × eb_St) => (z16.1, z16.2)) (m_X10_sets σ ((x2 + x4).toInt64)) else (if (σ.1 0 41) = 1 then (fun (z15 : Int32 × eb_St) => (z15.1, z15.2)) (m_X10_sets σ ((x2 <<< ((x4 &&& 31) &&& 31)).toInt64)) else (if (σ.1 0 41) = 5 then (fun (z14 : Int32 × eb_St) => (z14.1, z14.2)) (m_X10_sets σ ((eb_iushr x2 (x4 &&& 31)).toInt64)) else (fun (z13 : Int32 × eb_St) => (z13.1, z13.2)) (m_X10_illegal σ)))) else (fun (z17 : Int32 × eb_St) => (z17.1, z17.2)) (m_X10_illegal σ)))) = mm := by rw [ex6]; exact hm
  refine eb_emn (c := (σ.1 0 42) = 1) (fun h7 => ?_) (fun h7 => ?_)
  · have hm := (if_neg h7).symm.trans hm
    refine eb_emn (c := (σ.1 0 42) = 32) (fun h8 => ?_) (fun h8 => ?_)
    · have hm := (if_neg h8).symm.trans hm
      refine eb_em (c := (σ.1 0 42) = 0) (fun h9 => ?_) (fun h9 => ?_)
      · have hm := (if_pos h9).symm.trans hm
        refine eb_emn (c := (σ.1 0 41) = 0) (fun h10 => ?_) (fun h10 => ?_)
        · have hm := (if_neg h10).symm.trans hm
          refine eb_emn (c := (σ.1 0 41) = 1) (fun h11 => ?_) (fun h11 => ?_)
          · have hm := (if_neg h11).symm.trans hm
            refine eb_emn (c := (σ.1 0 41) = 5) (fun h12 => ?_) (fun h12 => ?_)
            · have hm := (if_neg h12).symm.trans hm
              obtain ⟨z13, qz13⟩ : ∃ t : Int32 × eb_St, t = m_X10_illegal σ := ⟨_, rfl⟩
              have hm : (z13.1, z13.2) = mm := by rw [qz13]; exact hm
              have jz13 : rJ z13.2 := J_X10_illegal qz13.symm hj_
              subst hm
              exact jz13
            · have hm := (if_pos h12).symm.trans hm
              obtain ⟨z14, qz14⟩ : ∃ t : Int32 × eb_St, t = m_X10_sets σ ((eb_iushr x2 (x4 &&& 31)).toInt64) := ⟨_, rfl⟩
              have hm : (z14.1, z14.2) = mm := by rw [qz14]; exact hm
              have jz14 : rJ z14.2 := J_X10_sets qz14.symm hj_
              subst hm
              exact jz14
          · have hm := (if_pos h11).symm.trans hm
            obtain ⟨z15, qz15⟩ : ∃ t : Int32 × eb_St, t = m_X10_sets σ ((x2 <<< ((x4 &&& 31) &&& 31)).toInt64) := ⟨_, rfl⟩
            have hm : (z15.1, z15.2) = mm := by rw [qz15]; exact hm
            have jz15 : rJ z15.2 := J_X10_sets qz15.symm hj_
            subst hm
            exact jz15
        · have hm := (if_pos h10).symm.trans hm
          obtain ⟨z16, qz16⟩ : ∃ t : Int32 × eb_St, t = m_X10_sets σ ((x2 + x4).toInt64) := ⟨_, rfl⟩
          have hm : (z16.1, z16.2) = mm := by rw [qz16]; exact hm
          have jz16 : rJ z16.2 := J_X10_sets qz16.symm hj_
          subst hm
          exact jz16
      · have hm := (if_neg h9).symm.trans hm
        obtain ⟨z17, qz17⟩ : ∃ t : Int32 × eb_St, t = m_X10_illegal σ := ⟨_, rfl⟩
        have hm : (z17.1, z17.2) = mm := by rw [qz17]; exact hm
        have jz17 : rJ z17.2 := J_X10_illegal qz17.symm hj_
        subst hm
        exact jz17
    · have hm := (if_pos h8).symm.trans hm
      refine eb_emn (c := (σ.1 0 41) = 0) (fun h18 => ?_) (fun h18 => ?_)
      · have hm := (if_neg h18).symm.trans hm
        refine eb_emn (c := (σ.1 0 41) = 5) (fun h19 => ?_) (fun h19 => ?_)
        · have hm := (if_neg h19).symm.trans hm
          obtain ⟨z20, qz20⟩ : ∃ t : Int32 × eb_St, t = m_X10_illegal σ := ⟨_, rfl⟩
          have hm : (z20.1, z20.2) = mm := by rw [qz20]; exact hm
          have jz20 : rJ z20.2 := J_X10_illegal qz20.symm hj_
          subst hm
          exact jz20
        · have hm := (if_pos h19).symm.trans hm
          obtain ⟨z21, qz21⟩ : ∃ t : Int32 × eb_St, t = m_X10_sets σ ((x2 >>> ((x4 &&& 31) &&& 31)).toInt64) := ⟨_, rfl⟩
          have hm : (z21.1, z21.2) = mm := by rw [qz21]; exact hm
          have jz21 : rJ z21.2 := J_X10_sets qz21.symm hj_
          subst hm
          exact jz21
      · have hm := (if_pos h18).symm.trans hm
        obtain ⟨z22, qz22⟩ : ∃ t : Int32 × eb_St, t = m_X10_sets σ ((x2 - x4).toInt64) := ⟨_, rfl⟩
        have hm : (z22.1, z22.2) = mm := by rw [qz22]; exact hm
        have jz22 : rJ z22.2 := J_X10_sets qz22.symm hj_
        subst hm
        exact jz22
  · have hm := (if_pos h7).symm.trans hm
    by_cases h23 : (σ.1 0 41) = 0
    · have hm := (if_pos h23).symm.trans hm
      obtain ⟨z24, qz24⟩ : ∃ t : Int32 × eb_St, t = m_X10_sets σ ((x2 * x4).toInt64) := ⟨_, rfl⟩
      have hm : (z24.1, z24.2) = mm := by rw [qz24]; exact hm
      have jz24 : rJ z24.2 := J_X10_sets qz24.symm hj_
      subst hm
      exact jz24
    · have hm := (if_neg h23).symm.trans hm
      by_cases h25 : (σ.1 0 41) = 1
      · have hm := (if_pos h25).symm.trans hm
        obtain ⟨z26, qz26⟩ : ∃ t : Int32 × eb_St, t = m_X10_illegal σ := ⟨_, rfl⟩
        have hm : (z26.1, z26.2) = mm := by rw [qz26]; exact hm
        have jz26 : rJ z26.2 := J_X10_illegal qz26.symm hj_
        subst hm
        exact jz26
      · have hm := (if_neg h25).symm.trans hm
        by_cases h27 : (σ.1 0 41) = 2
        · have hm := (if_pos h27).symm.trans hm
          obtain ⟨z28, qz28⟩ : ∃ t : Int32 × eb_St, t = m_X10_illegal σ := ⟨_, rfl⟩
          have hm : (z28.1, z28.2) = mm := by rw [qz28]; exact hm
          have jz28 : rJ z28.2 := J_X10_illegal qz28.symm hj_
          subst hm
          exact jz28
        · have hm := (if_neg h27).symm.trans hm
          by_cases h29 : (σ.1 0 41) = 3
          · have hm := (if_pos h29).symm.trans hm
            obtain ⟨z30, qz30⟩ : ∃ t : Int32 × eb_St, t = m_X10_illegal σ := ⟨_, rfl⟩
            have hm : (z30.1, z30.2) = mm := by rw [qz30]; exact hm
            have jz30 : rJ z30.2 := J_X10_illegal qz30.symm hj_
            subst hm
            exact jz30
          · have hm := (if_neg h29).symm.trans hm
            by_cases h31 : (σ.1 0 41) = 4
            · have hm := (if_pos h31).symm.trans hm
              refine eb_emn (c := x4 = 0) (fun h32 => ?_) (fun h32 => ?_)
              · have hm := (if_neg h32).symm.trans hm
                refine eb_emn (c := x4 = (-1)) (fun h33 => ?_) (fun h33 => ?_)
                · have hm := (if_neg h33).symm.trans hm
                  obtain ⟨z34, qz34⟩ : ∃ t : Int32 × eb_St, t = m_X10_sets σ ((x2 / x4).toInt64) := ⟨_, rfl⟩
                  have hm : (z34.1, z34.2) = mm := by rw [qz34]; exact hm
                  have jz34 : rJ z34.2 := J_X10_sets qz34.symm hj_
                  subst hm
                  exact jz34
                · have hm := (if_pos h33).symm.trans hm
                  obtain ⟨z35, qz35⟩ : ∃ t : Int32 × eb_St, t = m_X10_sets σ ((-x2).toInt64) := ⟨_, rfl⟩
                  have hm : (z35.1, z35.2) = mm := by rw [qz35]; exact hm
                  have jz35 : rJ z35.2 := J_X10_sets qz35.symm hj_
                  subst hm
                  exact jz35
              · have hm := (if_pos h32).symm.trans hm
                obtain ⟨z36, qz36⟩ : ∃ t : Int32 × eb_St, t = m_X10_sets σ (-1) := ⟨_, rfl⟩
                have hm : (z36.1, z36.2) = mm := by rw [qz36]; exact hm
                have jz36 : rJ z36.2 := J_X10_sets qz36.symm hj_
                subst hm
                exact jz36
            · have hm := (if_neg h31).symm.trans hm
              by_cases h37 : (σ.1 0 41) = 5
              · have hm := (if_pos h37).symm.trans hm
                refine eb_emn (c := x4 = 0) (fun h38 => ?_) (fun h38 => ?_)
                · have hm := (if_neg h38).symm.trans hm
                  obtain ⟨z39, qz39⟩ : ∃ t : Int32 × eb_St, t = m_X10_sets σ (((x5 / x6).toInt32).toInt64) := ⟨_, rfl⟩
                  have hm : (z39.1, z39.2) = mm := by rw [qz39]; exact hm
                  have jz39 : rJ z39.2 := J_X10_sets qz39.symm hj_
                  subst hm
                  exact jz39
                · have hm := (if_pos h38).symm.trans hm
                  obtain ⟨z40, qz40⟩ : ∃ t : Int32 × eb_St, t = m_X10_sets σ (-1) := ⟨_, rfl⟩
                  have hm : (z40.1, z40.2) = mm := by rw [qz40]; exact hm
                  have jz40 : rJ z40.2 := J_X10_sets qz40.symm hj_
                  subst hm
                  exact jz40
              · have hm := (if_neg h37).symm.trans hm
                by_cases h41 : (σ.1 0 41) = 6
                · have hm := (if_pos h41).symm.trans hm
                  refine eb_emn (c := x4 = 0) (fun h42 => ?_) (fun h42 => ?_)
                  · have hm := (if_neg h42).symm.trans hm
                    refine eb_emn (c := x4 = (-1)) (fun h43 => ?_) (fun h43 => ?_)
                    · have hm := (if_neg h43).symm.trans hm
                      obtain ⟨z44, qz44⟩ : ∃ t : Int32 × eb_St, t = m_X10_sets σ ((x2 - x2 / x4 * x4).toInt64) := ⟨_, rfl⟩
                      have hm : (z44.1, z44.2) = mm := by rw [qz44]; exact hm
                      have jz44 : rJ z44.2 := J_X10_sets qz44.symm hj_
                      subst hm
                      exact jz44
                    · have hm := (if_pos h43).symm.trans hm
                      obtain ⟨z45, qz45⟩ : ∃ t : Int32 × eb_St, t = m_X10_sets σ 0 := ⟨_, rfl⟩
                      have hm : (z45.1, z45.2) = mm := by rw [qz45]; exact hm
                      have jz45 : rJ z45.2 := J_X10_sets qz45.symm hj_
                      subst hm
                      exact jz45
                  · have hm := (if_pos h42).symm.trans hm
                    obtain ⟨z46, qz46⟩ : ∃ t : Int32 × eb_St, t = m_X10_sets σ x2.toInt64 := ⟨_, rfl⟩
                    have hm : (z46.1, z46.2) = mm := by rw [qz46]; exact hm
                    have jz46 : rJ z46.2 := J_X10_sets qz46.symm hj_
                    subst hm
                    exact jz46
                · have hm := (if_neg h41).symm.trans hm
                  by_cases h47 : (σ.1 0 41) = 7
                  · have hm := (if_pos h47).symm.trans hm
                    refine eb_emn (c := x4 = 0) (fun h48 => ?_) (fun h48 => ?_)
                    · have hm := (if_neg h48).symm.trans hm
                      obtain ⟨z49, qz49⟩ : ∃ t : Int32 × eb_St, t = m_X10_sets σ (((x5 - x5 / x6 * x6).toInt32).toInt64) := ⟨_, rfl⟩
                      have hm : (z49.1, z49.2) = mm := by rw [qz49]; exact hm
                      have jz49 : rJ z49.2 := J_X10_sets qz49.symm hj_
                      subst hm
                      exact jz49
                    · have hm := (if_pos h48).symm.trans hm
                      obtain ⟨z50, qz50⟩ : ∃ t : Int32 × eb_St, t = m_X10_sets σ x2.toInt64 := ⟨_, rfl⟩
                      have hm : (z50.1, z50.2) = mm := by rw [qz50]; exact hm
                      have jz50 : rJ z50.2 := J_X10_sets qz50.symm hj_
                      subst hm
                      exact jz50
                  · have hm := (if_neg h47).symm.trans hm
                    obtain ⟨z51, qz51⟩ : ∃ t : Int32 × eb_St, t = m_X10_illegal σ := ⟨_, rfl⟩
                    have hm : (z51.1, z51.2) = mm := by rw [qz51]; exact hm
                    have jz51 : rJ z51.2 := J_X10_illegal qz51.symm hj_
                    subst hm
                    exact jz51
set_option maxHeartbeats 4000000 in
set_option maxRecDepth 100000 in
theorem c_X10_registersW (l : Launch) (D : va_G) (cy : Nat → ClassId) (ad : Nat → Nat) (σ : eb_St)  (hj_ : rJ σ) : eb_M l yX10_registersW (Cond.code yX10_registersW cX10_registersW 7 (some .int) :: wsL_law) 3 65 D 18 cy rL ad σ [.ref (ad 0)] (some (.int (m_X10_registersW σ).1)) ((m_X10_registersW σ).2) := by
  refine eb_start (own := RX10) (by decide) rfl rfl (Nat.le_of_ble_eq_true rfl) ?_
  intro p e s m args below meth c A ls X hw hl
  have hl : lv_has ls 7 [(0, .ref (ad 0))] := hl
  have hx := X.1.1
  have hb := X.1.2.1
  have hown := X.1.2.2.2.1
  have hts := X.1.2.2.2.2
  generalize hm : m_X10_registersW σ = mm
  have hm : (fun (z1 : Int64) => (fun (x2 : Int32) => (fun (z3 : Int64) => (fun (x4 : Int32) => (fun (x5 : Int64) => (fun (x6 : Int64) => (if (σ.1 0 42) = 1 then (if (σ.1 0 41) = 0 then (fun (z24 : Int32 × eb_St) => (z24.1, z24.2)) (m_X10_sets σ ((x2 * x4).toInt64)) else if (σ.1 0 41) = 1 then (fun (z26 : Int32 × eb_St) => (z26.1, z26.2)) (m_X10_illegal σ) else if (σ.1 0 41) = 2 then (fun (z28 : Int32 × eb_St) => (z28.1, z28.2)) (m_X10_illegal σ) else if (σ.1 0 41) = 3 then (fun (z30 : Int32 × eb_St) => (z30.1, z30.2)) (m_X10_illegal σ) else if (σ.1 0 41) = 4 then (if x4 = 0 then (fun (z36 : Int32 × eb_St) => (z36.1, z36.2)) (m_X10_sets σ (-1)) else (if x4 = (-1) then (fun (z35 : Int32 × eb_St) => (z35.1, z35.2)) (m_X10_sets σ ((-x2).toInt64)) else (fun (z34 : Int32 × eb_St) => (z34.1, z34.2)) (m_X10_sets σ ((x2 / x4).toInt64)))) else if (σ.1 0 41) = 5 then (if x4 = 0 then (fun (z40 : Int32 × eb_St) => (z40.1, z40.2)) (m_X10_sets σ (-1)) else (fun (z39 : Int32 × eb_St) => (z39.1, z39.2)) (m_X10_sets σ (((x5 / x6).toInt32).toInt64))) else if (σ.1 0 41) = 6 then (if x4 = 0 then (fun (z46 : Int32 × eb_St) => (z46.1, z46.2)) (m_X10_sets σ x2.toInt64) else (if x4 = (-1) then (fun (z45 : Int32 × eb_St) => (z45.1, z45.2)) (m_X10_sets σ 0) else (fun (z44 : Int32 × eb_St) => (z44.1, z44.2)) (m_X10_sets σ ((x2 - x2 / x4 * x4).toInt64)))) else if (σ.1 0 41) = 7 then (if x4 = 0 then (fun (z50 : Int32 × eb_St) => (z50.1, z50.2)) (m_X10_sets σ x2.toInt64) else (fun (z49 : Int32 × eb_St) => (z49.1, z49.2)) (m_X10_sets σ (((x5 - x5 / x6 * x6).toInt32).toInt64))) else (fun (z51 : Int32 × eb_St) => (z51.1, z51.2)) (m_X10_illegal σ)) else (if (σ.1 0 42) = 32 then (if (σ.1 0 41) = 0 then (fun (z22 : Int32 × eb_St) => (z22.1, z22.2)) (m_X10_sets σ ((x2 - x4).toInt64)) else (if (σ.1 0 41) = 5 then (fun (z21 : Int32 × eb_St) => (z21.1, z21.2)) (m_X10_sets σ ((x2 >>> ((x4 &&& 31) &&& 31)).toInt64)) else (fun (z20 : Int32 × eb_St) => (z20.1, z20.2)) (m_X10_illegal σ))) else (if (σ.1 0 42) = 0 then (if (σ.1 0 41) = 0 then (fun (z16 : Int32 × eb_St) => (z16.1, z16.2)) (m_X10_sets σ ((x2 + x4).toInt64)) else (if (σ.1 0 41) = 1 then (fun (z15 : Int32 × eb_St) => (z15.1, z15.2)) (m_X10_sets σ ((x2 <<< ((x4 &&& 31) &&& 31)).toInt64)) else (if (σ.1 0 41) = 5 then (fun (z14 : Int32 × eb_St) => (z14.1, z14.2)) (m_X10_sets σ ((eb_iushr x2 (x4 &&& 31)).toInt64)) else (fun (z13 : Int32 × eb_St) => (z13.1, z13.2)) (m_X10_illegal σ)))) else (fun (z17 : Int32 × eb_St) => (z17.1, z17.2)) (m_X10_illegal σ))))) (x4.toInt64 &&& 4294967295)) (x2.toInt64 &&& 4294967295)) (z3.toInt32)) (m_X10_x σ (σ.1 0 40))) (z1.toInt32)) (m_X10_x σ (σ.1 0 39)) = mm := hm
  refine lv_aload_n hx hb dX10_registersW_0 rfl (lv_at hl 0 rfl) ?_
  refine lv_aload_n hx hb dX10_registersW_1 rfl (lv_at hl 0 rfl) ?_
  refine eb_get (T := TX10) X hw 0 39 (by decide) ⟨rfl, rfl, rfl⟩ (by decide) (fun _ h => List.mem_cons_of_mem _ (inlX10 _ h)) (List.mem_cons_of_mem _ wi_30_11) (v := .int (σ.1 0 39)) rfl dX10_registersW_2 ?_
  obtain ⟨z1, qz1⟩ : ∃ t : Int64, t = m_X10_x σ (σ.1 0 39) := ⟨_, rfl⟩
  have hm : (fun (x2 : Int32) => (fun (z3 : Int64) => (fun (x4 : Int32) => (fun (x5 : Int64) => (fun (x6 : Int64) => (if (σ.1 0 42) = 1 then (if (σ.1 0 41) = 0 then (fun (z24 : Int32 × eb_St) => (z24.1, z24.2)) (m_X10_sets σ ((x2 * x4).toInt64)) else if (σ.1 0 41) = 1 then (fun (z26 : Int32 × eb_St) => (z26.1, z26.2)) (m_X10_illegal σ) else if (σ.1 0 41) = 2 then (fun (z28 : Int32 × eb_St) => (z28.1, z28.2)) (m_X10_illegal σ) else if (σ.1 0 41) = 3 then (fun (z30 : Int32 × eb_St) => (z30.1, z30.2)) (m_X10_illegal σ) else if (σ.1 0 41) = 4 then (if x4 = 0 then (fun (z36 : Int32 × eb_St) => (z36.1, z36.2)) (m_X10_sets σ (-1)) else (if x4 = (-1) then (fun (z35 : Int32 × eb_St) => (z35.1, z35.2)) (m_X10_sets σ ((-x2).toInt64)) else (fun (z34 : Int32 × eb_St) => (z34.1, z34.2)) (m_X10_sets σ ((x2 / x4).toInt64)))) else if (σ.1 0 41) = 5 then (if x4 = 0 then (fun (z40 : Int32 × eb_St) => (z40.1, z40.2)) (m_X10_sets σ (-1)) else (fun (z39 : Int32 × eb_St) => (z39.1, z39.2)) (m_X10_sets σ (((x5 / x6).toInt32).toInt64))) else if (σ.1 0 41) = 6 then (if x4 = 0 then (fun (z46 : Int32 × eb_St) => (z46.1, z46.2)) (m_X10_sets σ x2.toInt64) else (if x4 = (-1) then (fun (z45 : Int32 × eb_St) => (z45.1, z45.2)) (m_X10_sets σ 0) else (fun (z44 : Int32 × eb_St) => (z44.1, z44.2)) (m_X10_sets σ ((x2 - x2 / x4 * x4).toInt64)))) else if (σ.1 0 41) = 7 then (if x4 = 0 then (fun (z50 : Int32 × eb_St) => (z50.1, z50.2)) (m_X10_sets σ x2.toInt64) else (fun (z49 : Int32 × eb_St) => (z49.1, z49.2)) (m_X10_sets σ (((x5 - x5 / x6 * x6).toInt32).toInt64))) else (fun (z51 : Int32 × eb_St) => (z51.1, z51.2)) (m_X10_illegal σ)) else (if (σ.1 0 42) = 32 then (if (σ.1 0 41) = 0 then (fun (z22 : Int32 × eb_St) => (z22.1, z22.2)) (m_X10_sets σ ((x2 - x4).toInt64)) else (if (σ.1 0 41) = 5 then (fun (z21 : Int32 × eb_St) => (z21.1, z21.2)) (m_X10_sets σ ((x2 >>> ((x4 &&& 31) &&& 31)).toInt64)) else (fun (z20 : Int32 × eb_St) => (z20.1, z20.2)) (m_X10_illegal σ))) else (if (σ.1 0 42) = 0 then (if (σ.1 0 41) = 0 then (fun (z16 : Int32 × eb_St) => (z16.1, z16.2)) (m_X10_sets σ ((x2 + x4).toInt64)) else (if (σ.1 0 41) = 1 then (fun (z15 : Int32 × eb_St) => (z15.1, z15.2)) (m_X10_sets σ ((x2 <<< ((x4 &&& 31) &&& 31)).toInt64)) else (if (σ.1 0 41) = 5 then (fun (z14 : Int32 × eb_St) => (z14.1, z14.2)) (m_X10_sets σ ((eb_iushr x2 (x4 &&& 31)).toInt64)) else (fun (z13 : Int32 × eb_St) => (z13.1, z13.2)) (m_X10_illegal σ)))) else (fun (z17 : Int32 × eb_St) => (z17.1, z17.2)) (m_X10_illegal σ))))) (x4.toInt64 &&& 4294967295)) (x2.toInt64 &&& 4294967295)) (z3.toInt32)) (m_X10_x σ (σ.1 0 40))) (z1.toInt32) = mm := by rw [qz1]; exact hm
  have hc : eb_M l yX10_x (Cond.code yX10_x cX10_x 2 (some .long) :: wsL_law) 1 20 D 18 cy rL ad σ [.ref (ad 0), .int (σ.1 0 39)] (some (.long z1)) σ := by rw [qz1]; exact c_X10_x l D cy ad σ (σ.1 0 39) hj_ hj_.2.2.2.1
  refine eb_callV (n := 1) (as := [.int (σ.1 0 39)]) (rest := []) X hw hl.1 0 hc (by decide) ⟨rfl, rfl, rfl⟩ (eb_goodV wi_33_4 wi_33_5 wi_33_6 wi_1_5 wi_33_7) rfl (by decide +kernel) ⟨by decide, by decide⟩ rfl rfl (Nat.le_of_ble_eq_true rfl) dX10_registersW_5 ⟨by decide, by decide⟩ (st' := [.long z1]) rfl (fun H locs hw => ?_)
  refine lv_l2i (v := z1.toInt32) hx hb dX10_registersW_8 rfl ?_
  refine lv_topi (fun x2 ex2 => ?_)
  have hm : (fun (z3 : Int64) => (fun (x4 : Int32) => (fun (x5 : Int64) => (fun (x6 : Int64) => (if (σ.1 0 42) = 1 then (if (σ.1 0 41) = 0 then (fun (z24 : Int32 × eb_St) => (z24.1, z24.2)) (m_X10_sets σ ((x2 * x4).toInt64)) else if (σ.1 0 41) = 1 then (fun (z26 : Int32 × eb_St) => (z26.1, z26.2)) (m_X10_illegal σ) else if (σ.1 0 41) = 2 then (fun (z28 : Int32 × eb_St) => (z28.1, z28.2)) (m_X10_illegal σ) else if (σ.1 0 41) = 3 then (fun (z30 : Int32 × eb_St) => (z30.1, z30.2)) (m_X10_illegal σ) else if (σ.1 0 41) = 4 then (if x4 = 0 then (fun (z36 : Int32 × eb_St) => (z36.1, z36.2)) (m_X10_sets σ (-1)) else (if x4 = (-1) then (fun (z35 : Int32 × eb_St) => (z35.1, z35.2)) (m_X10_sets σ ((-x2).toInt64)) else (fun (z34 : Int32 × eb_St) => (z34.1, z34.2)) (m_X10_sets σ ((x2 / x4).toInt64)))) else if (σ.1 0 41) = 5 then (if x4 = 0 then (fun (z40 : Int32 × eb_St) => (z40.1, z40.2)) (m_X10_sets σ (-1)) else (fun (z39 : Int32 × eb_St) => (z39.1, z39.2)) (m_X10_sets σ (((x5 / x6).toInt32).toInt64))) else if (σ.1 0 41) = 6 then (if x4 = 0 then (fun (z46 : Int32 × eb_St) => (z46.1, z46.2)) (m_X10_sets σ x2.toInt64) else (if x4 = (-1) then (fun (z45 : Int32 × eb_St) => (z45.1, z45.2)) (m_X10_sets σ 0) else (fun (z44 : Int32 × eb_St) => (z44.1, z44.2)) (m_X10_sets σ ((x2 - x2 / x4 * x4).toInt64)))) else if (σ.1 0 41) = 7 then (if x4 = 0 then (fun (z50 : Int32 × eb_St) => (z50.1, z50.2)) (m_X10_sets σ x2.toInt64) else (fun (z49 : Int32 × eb_St) => (z49.1, z49.2)) (m_X10_sets σ (((x5 - x5 / x6 * x6).toInt32).toInt64))) else (fun (z51 : Int32 × eb_St) => (z51.1, z51.2)) (m_X10_illegal σ)) else (if (σ.1 0 42) = 32 then (if (σ.1 0 41) = 0 then (fun (z22 : Int32 × eb_St) => (z22.1, z22.2)) (m_X10_sets σ ((x2 - x4).toInt64)) else (if (σ.1 0 41) = 5 then (fun (z21 : Int32 × eb_St) => (z21.1, z21.2)) (m_X10_sets σ ((x2 >>> ((x4 &&& 31) &&& 31)).toInt64)) else (fun (z20 : Int32 × eb_St) => (z20.1, z20.2)) (m_X10_illegal σ))) else (if (σ.1 0 42) = 0 then (if (σ.1 0 41) = 0 then (fun (z16 : Int32 × eb_St) => (z16.1, z16.2)) (m_X10_sets σ ((x2 + x4).toInt64)) else (if (σ.1 0 41) = 1 then (fun (z15 : Int32 × eb_St) => (z15.1, z15.2)) (m_X10_sets σ ((x2 <<< ((x4 &&& 31) &&& 31)).toInt64)) else (if (σ.1 0 41) = 5 then (fun (z14 : Int32 × eb_St) => (z14.1, z14.2)) (m_X10_sets σ ((eb_iushr x2 (x4 &&& 31)).toInt64)) else (fun (z13 : Int32 × eb_St) => (z13.1, z13.2)) (m_X10_illegal σ)))) else (fun (z17 : Int32 × eb_St) => (z17.1, z17.2)) (m_X10_illegal σ))))) (x4.toInt64 &&& 4294967295)) (x2.toInt64 &&& 4294967295)) (z3.toInt32)) (m_X10_x σ (σ.1 0 40)) = mm := by rw [ex2]; exact hm
  refine lv_istore_n (lv' := [(1, .int x2), (0, .ref (ad 0))]) hx hb dX10_registersW_9 rfl hl (by decide) rfl (fun ls hl => ?_)
  refine lv_aload_n hx hb dX10_registersW_10 rfl (lv_at hl 1 rfl) ?_
  refine lv_aload_n hx hb dX10_registersW_11 rfl (lv_at hl 1 rfl) ?_
  refine eb_get (T := TX10) X hw 0 40 (by decide) ⟨rfl, rfl, rfl⟩ (by decide) (fun _ h => List.mem_cons_of_mem _ (inlX10 _ h)) (List.mem_cons_of_mem _ wi_30_12) (v := .int (σ.1 0 40)) rfl dX10_registersW_12 ?_
  obtain ⟨z3, qz3⟩ : ∃ t : Int64, t = m_X10_x σ (σ.1 0 40) := ⟨_, rfl⟩
  have hm : (fun (x4 : Int32) => (fun (x5 : Int64) => (fun (x6 : Int64) => (if (σ.1 0 42) = 1 then (if (σ.1 0 41) = 0 then (fun (z24 : Int32 × eb_St) => (z24.1, z24.2)) (m_X10_sets σ ((x2 * x4).toInt64)) else if (σ.1 0 41) = 1 then (fun (z26 : Int32 × eb_St) => (z26.1, z26.2)) (m_X10_illegal σ) else if (σ.1 0 41) = 2 then (fun (z28 : Int32 × eb_St) => (z28.1, z28.2)) (m_X10_illegal σ) else if (σ.1 0 41) = 3 then (fun (z30 : Int32 × eb_St) => (z30.1, z30.2)) (m_X10_illegal σ) else if (σ.1 0 41) = 4 then (if x4 = 0 then (fun (z36 : Int32 × eb_St) => (z36.1, z36.2)) (m_X10_sets σ (-1)) else (if x4 = (-1) then (fun (z35 : Int32 × eb_St) => (z35.1, z35.2)) (m_X10_sets σ ((-x2).toInt64)) else (fun (z34 : Int32 × eb_St) => (z34.1, z34.2)) (m_X10_sets σ ((x2 / x4).toInt64)))) else if (σ.1 0 41) = 5 then (if x4 = 0 then (fun (z40 : Int32 × eb_St) => (z40.1, z40.2)) (m_X10_sets σ (-1)) else (fun (z39 : Int32 × eb_St) => (z39.1, z39.2)) (m_X10_sets σ (((x5 / x6).toInt32).toInt64))) else if (σ.1 0 41) = 6 then (if x4 = 0 then (fun (z46 : Int32 × eb_St) => (z46.1, z46.2)) (m_X10_sets σ x2.toInt64) else (if x4 = (-1) then (fun (z45 : Int32 × eb_St) => (z45.1, z45.2)) (m_X10_sets σ 0) else (fun (z44 : Int32 × eb_St) => (z44.1, z44.2)) (m_X10_sets σ ((x2 - x2 / x4 * x4).toInt64)))) else if (σ.1 0 41) = 7 then (if x4 = 0 then (fun (z50 : Int32 × eb_St) => (z50.1, z50.2)) (m_X10_sets σ x2.toInt64) else (fun (z49 : Int32 × eb_St) => (z49.1, z49.2)) (m_X10_sets σ (((x5 - x5 / x6 * x6).toInt32).toInt64))) else (fun (z51 : Int32 × eb_St) => (z51.1, z51.2)) (m_X10_illegal σ)) else (if (σ.1 0 42) = 32 then (if (σ.1 0 41) = 0 then (fun (z22 : Int32 × eb_St) => (z22.1, z22.2)) (m_X10_sets σ ((x2 - x4).toInt64)) else (if (σ.1 0 41) = 5 then (fun (z21 : Int32 × eb_St) => (z21.1, z21.2)) (m_X10_sets σ ((x2 >>> ((x4 &&& 31) &&& 31)).toInt64)) else (fun (z20 : Int32 × eb_St) => (z20.1, z20.2)) (m_X10_illegal σ))) else (if (σ.1 0 42) = 0 then (if (σ.1 0 41) = 0 then (fun (z16 : Int32 × eb_St) => (z16.1, z16.2)) (m_X10_sets σ ((x2 + x4).toInt64)) else (if (σ.1 0 41) = 1 then (fun (z15 : Int32 × eb_St) => (z15.1, z15.2)) (m_X10_sets σ ((x2 <<< ((x4 &&& 31) &&& 31)).toInt64)) else (if (σ.1 0 41) = 5 then (fun (z14 : Int32 × eb_St) => (z14.1, z14.2)) (m_X10_sets σ ((eb_iushr x2 (x4 &&& 31)).toInt64)) else (fun (z13 : Int32 × eb_St) => (z13.1, z13.2)) (m_X10_illegal σ)))) else (fun (z17 : Int32 × eb_St) => (z17.1, z17.2)) (m_X10_illegal σ))))) (x4.toInt64 &&& 4294967295)) (x2.toInt64 &&& 4294967295)) (z3.toInt32) = mm := by rw [qz3]; exact hm
  have hc : eb_M l yX10_x (Cond.code yX10_x cX10_x 2 (some .long) :: wsL_law) 1 20 D 18 cy rL ad σ [.ref (ad 0), .int (σ.1 0 40)] (some (.long z3)) σ := by rw [qz3]; exact c_X10_x l D cy ad σ (σ.1 0 40) hj_ hj_.2.2.2.2.1
  refine eb_callV (n := 1) (as := [.int (σ.1 0 40)]) (rest := []) X hw hl.1 0 hc (by decide) ⟨rfl, rfl, rfl⟩ (eb_goodV wi_33_4 wi_33_5 wi_33_6 wi_1_5 wi_33_7) rfl (by decide +kernel) ⟨by decide, by decide⟩ rfl rfl (Nat.le_of_ble_eq_true rfl) dX10_registersW_15 ⟨by decide, by decide⟩ (st' := [.long z3]) rfl (fun H locs hw => ?_)
  refine lv_l2i (v := z3.toInt32) hx hb dX10_registersW_18 rfl ?_
  refine lv_topi (fun x4 ex4 => ?_)
  have hm : (fun (x5 : Int64) => (fun (x6 : Int64) => (if (σ.1 0 42) = 1 then (if (σ.1 0 41) = 0 then (fun (z24 : Int32 × eb_St) => (z24.1, z24.2)) (m_X10_sets σ ((x2 * x4).toInt64)) else if (σ.1 0 41) = 1 then (fun (z26 : Int32 × eb_St) => (z26.1, z26.2)) (m_X10_illegal σ) else if (σ.1 0 41) = 2 then (fun (z28 : Int32 × eb_St) => (z28.1, z28.2)) (m_X10_illegal σ) else if (σ.1 0 41) = 3 then (fun (z30 : Int32 × eb_St) => (z30.1, z30.2)) (m_X10_illegal σ) else if (σ.1 0 41) = 4 then (if x4 = 0 then (fun (z36 : Int32 × eb_St) => (z36.1, z36.2)) (m_X10_sets σ (-1)) else (if x4 = (-1) then (fun (z35 : Int32 × eb_St) => (z35.1, z35.2)) (m_X10_sets σ ((-x2).toInt64)) else (fun (z34 : Int32 × eb_St) => (z34.1, z34.2)) (m_X10_sets σ ((x2 / x4).toInt64)))) else if (σ.1 0 41) = 5 then (if x4 = 0 then (fun (z40 : Int32 × eb_St) => (z40.1, z40.2)) (m_X10_sets σ (-1)) else (fun (z39 : Int32 × eb_St) => (z39.1, z39.2)) (m_X10_sets σ (((x5 / x6).toInt32).toInt64))) else if (σ.1 0 41) = 6 then (if x4 = 0 then (fun (z46 : Int32 × eb_St) => (z46.1, z46.2)) (m_X10_sets σ x2.toInt64) else (if x4 = (-1) then (fun (z45 : Int32 × eb_St) => (z45.1, z45.2)) (m_X10_sets σ 0) else (fun (z44 : Int32 × eb_St) => (z44.1, z44.2)) (m_X10_sets σ ((x2 - x2 / x4 * x4).toInt64)))) else if (σ.1 0 41) = 7 then (if x4 = 0 then (fun (z50 : Int32 × eb_St) => (z50.1, z50.2)) (m_X10_sets σ x2.toInt64) else (fun (z49 : Int32 × eb_St) => (z49.1, z49.2)) (m_X10_sets σ (((x5 - x5 / x6 * x6).toInt32).toInt64))) else (fun (z51 : Int32 × eb_St) => (z51.1, z51.2)) (m_X10_illegal σ)) else (if (σ.1 0 42) = 32 then (if (σ.1 0 41) = 0 then (fun (z22 : Int32 × eb_St) => (z22.1, z22.2)) (m_X10_sets σ ((x2 - x4).toInt64)) else (if (σ.1 0 41) = 5 then (fun (z21 : Int32 × eb_St) => (z21.1, z21.2)) (m_X10_sets σ ((x2 >>> ((x4 &&& 31) &&& 31)).toInt64)) else (fun (z20 : Int32 × eb_St) => (z20.1, z20.2)) (m_X10_illegal σ))) else (if (σ.1 0 42) = 0 then (if (σ.1 0 41) = 0 then (fun (z16 : Int32 × eb_St) => (z16.1, z16.2)) (m_X10_sets σ ((x2 + x4).toInt64)) else (if (σ.1 0 41) = 1 then (fun (z15 : Int32 × eb_St) => (z15.1, z15.2)) (m_X10_sets σ ((x2 <<< ((x4 &&& 31) &&& 31)).toInt64)) else (if (σ.1 0 41) = 5 then (fun (z14 : Int32 × eb_St) => (z14.1, z14.2)) (m_X10_sets σ ((eb_iushr x2 (x4 &&& 31)).toInt64)) else (fun (z13 : Int32 × eb_St) => (z13.1, z13.2)) (m_X10_illegal σ)))) else (fun (z17 : Int32 × eb_St) => (z17.1, z17.2)) (m_X10_illegal σ))))) (x4.toInt64 &&& 4294967295)) (x2.toInt64 &&& 4294967295) = mm := by rw [ex4]; exact hm
  refine lv_istore_n (lv' := [(2, .int x4), (1, .int x2), (0, .ref (ad 0))]) hx hb dX10_registersW_19 rfl hl (by decide) rfl (fun ls hl => ?_)
  refine lv_iload_n hx hb dX10_registersW_20 rfl (lv_at hl 1 rfl) ?_
  refine lv_i2l (v := x2.toInt64) hx hb dX10_registersW_21 rfl ?_
  refine lv_ldc2 hx hb hown (hts _ (List.mem_cons_of_mem _ wi_33_3)) dX10_registersW_22 ?_
  refine lv_land hx hb dX10_registersW_25 ?_
  refine lv_topl (fun x5 ex5 => ?_)
  have hm : (fun (x6 : Int64) => (if (σ.1 0 42) = 1 then (if (σ.1 0 41) = 0 then (fun (z24 : Int32 × eb_St) => (z24.1, z24.2)) (m_X10_sets σ ((x2 * x4).toInt64)) else if (σ.1 0 41) = 1 then (fun (z26 : Int32 × eb_St) => (z26.1, z26.2)) (m_X10_illegal σ) else if (σ.1 0 41) = 2 then (fun (z28 : Int32 × eb_St) => (z28.1, z28.2)) (m_X10_illegal σ) else if (σ.1 0 41) = 3 then (fun (z30 : Int32 × eb_St) => (z30.1, z30.2)) (m_X10_illegal σ) else if (σ.1 0 41) = 4 then (if x4 = 0 then (fun (z36 : Int32 × eb_St) => (z36.1, z36.2)) (m_X10_sets σ (-1)) else (if x4 = (-1) then (fun (z35 : Int32 × eb_St) => (z35.1, z35.2)) (m_X10_sets σ ((-x2).toInt64)) else (fun (z34 : Int32 × eb_St) => (z34.1, z34.2)) (m_X10_sets σ ((x2 / x4).toInt64)))) else if (σ.1 0 41) = 5 then (if x4 = 0 then (fun (z40 : Int32 × eb_St) => (z40.1, z40.2)) (m_X10_sets σ (-1)) else (fun (z39 : Int32 × eb_St) => (z39.1, z39.2)) (m_X10_sets σ (((x5 / x6).toInt32).toInt64))) else if (σ.1 0 41) = 6 then (if x4 = 0 then (fun (z46 : Int32 × eb_St) => (z46.1, z46.2)) (m_X10_sets σ x2.toInt64) else (if x4 = (-1) then (fun (z45 : Int32 × eb_St) => (z45.1, z45.2)) (m_X10_sets σ 0) else (fun (z44 : Int32 × eb_St) => (z44.1, z44.2)) (m_X10_sets σ ((x2 - x2 / x4 * x4).toInt64)))) else if (σ.1 0 41) = 7 then (if x4 = 0 then (fun (z50 : Int32 × eb_St) => (z50.1, z50.2)) (m_X10_sets σ x2.toInt64) else (fun (z49 : Int32 × eb_St) => (z49.1, z49.2)) (m_X10_sets σ (((x5 - x5 / x6 * x6).toInt32).toInt64))) else (fun (z51 : Int32 × eb_St) => (z51.1, z51.2)) (m_X10_illegal σ)) else (if (σ.1 0 42) = 32 then (if (σ.1 0 41) = 0 then (fun (z22 : Int32 × eb_St) => (z22.1, z22.2)) (m_X10_sets σ ((x2 - x4).toInt64)) else (if (σ.1 0 41) = 5 then (fun (z21 : Int32 × eb_St) => (z21.1, z21.2)) (m_X10_sets σ ((x2 >>> ((x4 &&& 31) &&& 31)).toInt64)) else (fun (z20 : Int32 × eb_St) => (z20.1, z20.2)) (m_X10_illegal σ))) else (if (σ.1 0 42) = 0 then (if (σ.1 0 41) = 0 then (fun (z16 : Int32 × eb_St) => (z16.1, z16.2)) (m_X10_sets σ ((x2 + x4).toInt64)) else (if (σ.1 0 41) = 1 then (fun (z15 : Int32 × eb_St) => (z15.1, z15.2)) (m_X10_sets σ ((x2 <<< ((x4 &&& 31) &&& 31)).toInt64)) else (if (σ.1 0 41) = 5 then (fun (z14 : Int32 × eb_St) => (z14.1, z14.2)) (m_X10_sets σ ((eb_iushr x2 (x4 &&& 31)).toInt64)) else (fun (z13 : Int32 × eb_St) => (z13.1, z13.2)) (m_X10_illegal σ)))) else (fun (z17 : Int32 × eb_St) => (z17.1, z17.2)) (m_X10_illegal σ))))) (x4.toInt64 &&& 4294967295) = mm := by rw [ex5]; exact hm
  refine lv_lstore_n (lv' := [(3, .long x5), (2, .int x4), (1, .int x2), (0, .ref (ad 0))]) hx hb dX10_registersW_26 rfl hl (by decide) rfl (fun ls hl => ?_)
  refine lv_iload_n hx hb dX10_registersW_27 rfl (lv_at hl 1 rfl) ?_
  refine lv_i2l (v := x4.toInt64) hx hb dX10_registersW_28 rfl ?_
  refine lv_ldc2 hx hb hown (hts _ (List.mem_cons_of_mem _ wi_33_3)) dX10_registersW_29 ?_
  refine lv_land hx hb dX10_registersW_32 ?_
  refine lv_topl (fun x6 ex6 => ?_)
  have hm : (if (σ.1 0 42) = 1 then (if (σ.1 0 41) = 0 then (fun (z24 : Int32 × eb_St) => (z24.1, z24.2)) (m_X10_sets σ ((x2 * x4).toInt64)) else if (σ.1 0 41) = 1 then (fun (z26 : Int32 × eb_St) => (z26.1, z26.2)) (m_X10_illegal σ) else if (σ.1 0 41) = 2 then (fun (z28 : Int32 × eb_St) => (z28.1, z28.2)) (m_X10_illegal σ) else if (σ.1 0 41) = 3 then (fun (z30 : Int32 × eb_St) => (z30.1, z30.2)) (m_X10_illegal σ) else if (σ.1 0 41) = 4 then (if x4 = 0 then (fun (z36 : Int32 × eb_St) => (z36.1, z36.2)) (m_X10_sets σ (-1)) else (if x4 = (-1) then (fun (z35 : Int32 × eb_St) => (z35.1, z35.2)) (m_X10_sets σ ((-x2).toInt64)) else (fun (z34 : Int32 × eb_St) => (z34.1, z34.2)) (m_X10_sets σ ((x2 / x4).toInt64)))) else if (σ.1 0 41) = 5 then (if x4 = 0 then (fun (z40 : Int32 × eb_St) => (z40.1, z40.2)) (m_X10_sets σ (-1)) else (fun (z39 : Int32 × eb_St) => (z39.1, z39.2)) (m_X10_sets σ (((x5 / x6).toInt32).toInt64))) else if (σ.1 0 41) = 6 then (if x4 = 0 then (fun (z46 : Int32 × eb_St) => (z46.1, z46.2)) (m_X10_sets σ x2.toInt64) else (if x4 = (-1) then (fun (z45 : Int32 × eb_St) => (z45.1, z45.2)) (m_X10_sets σ 0) else (fun (z44 : Int32 × eb_St) => (z44.1, z44.2)) (m_X10_sets σ ((x2 - x2 / x4 * x4).toInt64)))) else if (σ.1 0 41) = 7 then (if x4 = 0 then (fun (z50 : Int32 × eb_St) => (z50.1, z50.2)) (m_X10_sets σ x2.toInt64) else (fun (z49 : Int32 × eb_St) => (z49.1, z49.2)) (m_X10_sets σ (((x5 - x5 / x6 * x6).toInt32).toInt64))) else (fun (z51 : Int32 × eb_St) => (z51.1, z51.2)) (m_X10_illegal σ)) else (if (σ.1 0 42) = 32 then (if (σ.1 0 41) = 0 then (fun (z22 : Int32 × eb_St) => (z22.1, z22.2)) (m_X10_sets σ ((x2 - x4).toInt64)) else (if (σ.1 0 41) = 5 then (fun (z21 : Int32 × eb_St) => (z21.1, z21.2)) (m_X10_sets σ ((x2 >>> ((x4 &&& 31) &&& 31)).toInt64)) else (fun (z20 : Int32 × eb_St) => (z20.1, z20.2)) (m_X10_illegal σ))) else (if (σ.1 0 42) = 0 then (if (σ.1 0 41) = 0 then (fun (z16 : Int32 × eb_St) => (z16.1, z16.2)) (m_X10_sets σ ((x2 + x4).toInt64)) else (if (σ.1 0 41) = 1 then (fun (z15 : Int32 × eb_St) => (z15.1, z15.2)) (m_X10_sets σ ((x2 <<< ((x4 &&& 31) &&& 31)).toInt64)) else (if (σ.1 0 41) = 5 then (fun (z14 : Int32 × eb_St) => (z14.1, z14.2)) (m_X10_sets σ ((eb_iushr x2 (x4 &&& 31)).toInt64)) else (fun (z13 : Int32 × eb_St) => (z13.1, z13.2)) (m_X10_illegal σ)))) else (fun (z17 : Int32 × eb_St) => (z17.1, z17.2)) (m_X10_illegal σ)))) = mm := by rw [ex6]; exact hm
  refine lv_lstore (lv' := [(5, .long x6), (3, .long x5), (2, .int x4), (1, .int x2), (0, .ref (ad 0))]) hx hb dX10_registersW_33 hl (by decide) rfl (fun ls hl => ?_)
  refine lv_aload_n hx hb dX10_registersW_35 rfl (lv_at hl 4 rfl) ?_
  refine eb_get (T := TX10) X hw 0 42 (by decide) ⟨rfl, rfl, rfl⟩ (by decide) (fun _ h => List.mem_cons_of_mem _ (inlX10 _ h)) (List.mem_cons_of_mem _ wi_30_13) (v := .int (σ.1 0 42)) rfl dX10_registersW_36 ?_
  refine lv_iconst (v := 1) hx hb dX10_registersW_39 (by decide) ?_
  refine lv_icmp_ne (tgt := 204) hx hb dX10_registersW_40 (by decide) (fun h7 => ?_) (fun h7 => ?_)
  · have hm := (if_neg h7).symm.trans hm
    refine lv_aload_n hx hb dX10_registersW_204 rfl (lv_at hl 4 rfl) ?_
    refine eb_get (T := TX10) X hw 0 42 (by decide) ⟨rfl, rfl, rfl⟩ (by decide) (fun _ h => List.mem_cons_of_mem _ (inlX10 _ h)) (List.mem_cons_of_mem _ wi_30_13) (v := .int (σ.1 0 42)) rfl dX10_registersW_205 ?_
    refine lv_bipush (v := 32) hx hb dX10_registersW_208 (by decide) ?_
    refine lv_icmp_ne (tgt := 258) hx hb dX10_registersW_210 (by decide) (fun h8 => ?_) (fun h8 => ?_)
    · have hm := (if_neg h8).symm.trans hm
      refine lv_aload_n hx hb dX10_registersW_258 rfl (lv_at hl 4 rfl) ?_
      refine eb_get (T := TX10) X hw 0 42 (by decide) ⟨rfl, rfl, rfl⟩ (by decide) (fun _ h => List.mem_cons_of_mem _ (inlX10 _ h)) (List.mem_cons_of_mem _ wi_30_13) (v := .int (σ.1 0 42)) rfl dX10_registersW_259 ?_
      refine lv_if_eq (tgt := 270) hx hb dX10_registersW_262 (by decide) (fun h9 => ?_) (fun h9 => ?_)
      · have hm := (if_pos h9).symm.trans hm
        refine lv_aload_n hx hb dX10_registersW_270 rfl (lv_at hl 4 rfl) ?_
        refine eb_get (T := TX10) X hw 0 41 (by decide) ⟨rfl, rfl, rfl⟩ (by decide) (fun _ h => List.mem_cons_of_mem _ (inlX10 _ h)) (List.mem_cons_of_mem _ wi_30_10) (v := .int (σ.1 0 41)) rfl dX10_registersW_271 ?_
        refine lv_if_ne (tgt := 288) hx hb dX10_registersW_274 (by decide) (fun h10 => ?_) (fun h10 => ?_)
        · have hm := (if_neg h10).symm.trans hm
          refine lv_aload_n hx hb dX10_registersW_288 rfl (lv_at hl 4 rfl) ?_
          refine eb_get (T := TX10) X hw 0 41 (by decide) ⟨rfl, rfl, rfl⟩ (by decide) (fun _ h => List.mem_cons_of_mem _ (inlX10 _ h)) (List.mem_cons_of_mem _ wi_30_10) (v := .int (σ.1 0 41)) rfl dX10_registersW_289 ?_
          refine lv_iconst (v := 1) hx hb dX10_registersW_292 (by decide) ?_
          refine lv_icmp_ne (tgt := 310) hx hb dX10_registersW_293 (by decide) (fun h11 => ?_) (fun h11 => ?_)
          · have hm := (if_neg h11).symm.trans hm
            refine lv_aload_n hx hb dX10_registersW_310 rfl (lv_at hl 4 rfl) ?_
            refine eb_get (T := TX10) X hw 0 41 (by decide) ⟨rfl, rfl, rfl⟩ (by decide) (fun _ h => List.mem_cons_of_mem _ (inlX10 _ h)) (List.mem_cons_of_mem _ wi_30_10) (v := .int (σ.1 0 41)) rfl dX10_registersW_311 ?_
            refine lv_iconst (v := 5) hx hb dX10_registersW_314 (by decide) ?_
            refine lv_icmp_ne (tgt := 332) hx hb dX10_registersW_315 (by decide) (fun h12 => ?_) (fun h12 => ?_)
            · have hm := (if_neg h12).symm.trans hm
              refine lv_aload_n hx hb dX10_registersW_332 rfl (lv_at hl 4 rfl) ?_
              obtain ⟨z13, qz13⟩ : ∃ t : Int32 × eb_St, t = m_X10_illegal σ := ⟨_, rfl⟩
              have hm : (z13.1, z13.2) = mm := by rw [qz13]; exact hm
              have jz13 : rJ z13.2 := J_X10_illegal qz13.symm hj_
              have hc : eb_M l yX10_illegal (Cond.code yX10_illegal cX10_illegal 1 (some .int) :: wsL_law) 1 23 D 18 cy rL ad σ [.ref (ad 0)] (some (.int z13.1)) z13.2 := by rw [qz13]; exact c_X10_illegal l D cy ad σ hj_
              refine eb_callV (n := 0) (as := []) (rest := []) X hw hl.1 0 hc (by decide) ⟨rfl, rfl, rfl⟩ (eb_goodV wi_32_23 wi_33_0 wi_33_1 wi_1_5 wi_33_2) rfl (by decide +kernel) ⟨by decide, by decide⟩ rfl rfl (Nat.le_of_ble_eq_true rfl) dX10_registersW_333 ⟨by decide, by decide⟩ (st' := [.int z13.1]) rfl (fun H locs hw => ?_)
              subst hm
              exact eb_iret X hw rfl rfl rfl dX10_registersW_336
            · have hm := (if_pos h12).symm.trans hm
              refine lv_aload_n hx hb dX10_registersW_318 rfl (lv_at hl 4 rfl) ?_
              refine lv_iload_n hx hb dX10_registersW_319 rfl (lv_at hl 3 rfl) ?_
              refine lv_iload_n hx hb dX10_registersW_320 rfl (lv_at hl 2 rfl) ?_
              refine lv_bipush (v := 31) hx hb dX10_registersW_321 (by decide) ?_
              refine lv_iand hx hb dX10_registersW_323 ?_
              refine lv_iushr (v := eb_iushr x2 (x4 &&& 31)) hx hb dX10_registersW_324 rfl ?_
              refine lv_i2l (v := (eb_iushr x2 (x4 &&& 31)).toInt64) hx hb dX10_registersW_325 rfl ?_
              obtain ⟨z14, qz14⟩ : ∃ t : Int32 × eb_St, t = m_X10_sets σ ((eb_iushr x2 (x4 &&& 31)).toInt64) := ⟨_, rfl⟩
              have hm : (z14.1, z14.2) = mm := by rw [qz14]; exact hm
              have jz14 : rJ z14.2 := J_X10_sets qz14.symm hj_
              have hc : eb_M l yX10_sets (Cond.code yX10_sets cX10_sets 3 (some .int) :: wsL_law) 2 43 D 18 cy rL ad σ [.ref (ad 0), .long ((eb_iushr x2 (x4 &&& 31)).toInt64)] (some (.int z14.1)) z14.2 := by rw [qz14]; exact c_X10_sets l D cy ad σ ((eb_iushr x2 (x4 &&& 31)).toInt64) hj_
              refine eb_callV (n := 1) (as := [.long ((eb_iushr x2 (x4 &&& 31)).toInt64)]) (rest := []) X hw hl.1 0 hc (by decide) ⟨rfl, rfl, rfl⟩ (eb_goodV wi_32_2 wi_32_3 wi_32_4 wi_1_5 wi_32_5) rfl (by decide +kernel) ⟨by decide, by decide⟩ rfl rfl (Nat.le_of_ble_eq_true rfl) dX10_registersW_326 ⟨by decide, by decide⟩ (st' := [.int z14.1]) rfl (fun H locs hw => ?_)
              refine lv_goto (tgt := 336) hx hb dX10_registersW_329 (by decide) ?_
              subst hm
              exact eb_iret X hw rfl rfl rfl dX10_registersW_336
          · have hm := (if_pos h11).symm.trans hm
            refine lv_aload_n hx hb dX10_registersW_296 rfl (lv_at hl 4 rfl) ?_
            refine lv_iload_n hx hb dX10_registersW_297 rfl (lv_at hl 3 rfl) ?_
            refine lv_iload_n hx hb dX10_registersW_298 rfl (lv_at hl 2 rfl) ?_
            refine lv_bipush (v := 31) hx hb dX10_registersW_299 (by decide) ?_
            refine lv_iand hx hb dX10_registersW_301 ?_
            refine lv_ishl hx hb dX10_registersW_302 ?_
            refine lv_i2l (v := (x2 <<< ((x4 &&& 31) &&& 31)).toInt64) hx hb dX10_registersW_303 rfl ?_
            obtain ⟨z15, qz15⟩ : ∃ t : Int32 × eb_St, t = m_X10_sets σ ((x2 <<< ((x4 &&& 31) &&& 31)).toInt64) := ⟨_, rfl⟩
            have hm : (z15.1, z15.2) = mm := by rw [qz15]; exact hm
            have jz15 : rJ z15.2 := J_X10_sets qz15.symm hj_
            have hc : eb_M l yX10_sets (Cond.code yX10_sets cX10_sets 3 (some .int) :: wsL_law) 2 43 D 18 cy rL ad σ [.ref (ad 0), .long ((x2 <<< ((x4 &&& 31) &&& 31)).toInt64)] (some (.int z15.1)) z15.2 := by rw [qz15]; exact c_X10_sets l D cy ad σ ((x2 <<< ((x4 &&& 31) &&& 31)).toInt64) hj_
            refine eb_callV (n := 1) (as := [.long ((x2 <<< ((x4 &&& 31) &&& 31)).toInt64)]) (rest := []) X hw hl.1 0 hc (by decide) ⟨rfl, rfl, rfl⟩ (eb_goodV wi_32_2 wi_32_3 wi_32_4 wi_1_5 wi_32_5) rfl (by decide +kernel) ⟨by decide, by decide⟩ rfl rfl (Nat.le_of_ble_eq_true rfl) dX10_registersW_304 ⟨by decide, by decide⟩ (st' := [.int z15.1]) rfl (fun H locs hw => ?_)
            refine lv_goto (tgt := 336) hx hb dX10_registersW_307 (by decide) ?_
            subst hm
            exact eb_iret X hw rfl rfl rfl dX10_registersW_336
        · have hm := (if_pos h10).symm.trans hm
          refine lv_aload_n hx hb dX10_registersW_277 rfl (lv_at hl 4 rfl) ?_
          refine lv_iload_n hx hb dX10_registersW_278 rfl (lv_at hl 3 rfl) ?_
          refine lv_iload_n hx hb dX10_registersW_279 rfl (lv_at hl 2 rfl) ?_
          refine lv_iadd hx hb dX10_registersW_280 ?_
          refine lv_i2l (v := (x2 + x4).toInt64) hx hb dX10_registersW_281 rfl ?_
          obtain ⟨z16, qz16⟩ : ∃ t : Int32 × eb_St, t = m_X10_sets σ ((x2 + x4).toInt64) := ⟨_, rfl⟩
          have hm : (z16.1, z16.2) = mm := by rw [qz16]; exact hm
          have jz16 : rJ z16.2 := J_X10_sets qz16.symm hj_
          have hc : eb_M l yX10_sets (Cond.code yX10_sets cX10_sets 3 (some .int) :: wsL_law) 2 43 D 18 cy rL ad σ [.ref (ad 0), .long ((x2 + x4).toInt64)] (some (.int z16.1)) z16.2 := by rw [qz16]; exact c_X10_sets l D cy ad σ ((x2 + x4).toInt64) hj_
          refine eb_callV (n := 1) (as := [.long ((x2 + x4).toInt64)]) (rest := []) X hw hl.1 0 hc (by decide) ⟨rfl, rfl, rfl⟩ (eb_goodV wi_32_2 wi_32_3 wi_32_4 wi_1_5 wi_32_5) rfl (by decide +kernel) ⟨by decide, by decide⟩ rfl rfl (Nat.le_of_ble_eq_true rfl) dX10_registersW_282 ⟨by decide, by decide⟩ (st' := [.int z16.1]) rfl (fun H locs hw => ?_)
          refine lv_goto (tgt := 336) hx hb dX10_registersW_285 (by decide) ?_
          subst hm
          exact eb_iret X hw rfl rfl rfl dX10_registersW_336
      · have hm := (if_neg h9).symm.trans hm
        refine lv_aload_n hx hb dX10_registersW_265 rfl (lv_at hl 4 rfl) ?_
        obtain ⟨z17, qz17⟩ : ∃ t : Int32 × eb_St, t = m_X10_illegal σ := ⟨_, rfl⟩
        have hm : (z17.1, z17.2) = mm := by rw [qz17]; exact hm
        have jz17 : rJ z17.2 := J_X10_illegal qz17.symm hj_
        have hc : eb_M l yX10_illegal (Cond.code yX10_illegal cX10_illegal 1 (some .int) :: wsL_law) 1 23 D 18 cy rL ad σ [.ref (ad 0)] (some (.int z17.1)) z17.2 := by rw [qz17]; exact c_X10_illegal l D cy ad σ hj_
        refine eb_callV (n := 0) (as := []) (rest := []) X hw hl.1 0 hc (by decide) ⟨rfl, rfl, rfl⟩ (eb_goodV wi_32_23 wi_33_0 wi_33_1 wi_1_5 wi_33_2) rfl (by decide +kernel) ⟨by decide, by decide⟩ rfl rfl (Nat.le_of_ble_eq_true rfl) dX10_registersW_266 ⟨by decide, by decide⟩ (st' := [.int z17.1]) rfl (fun H locs hw => ?_)
        subst hm
        exact eb_iret X hw rfl rfl rfl dX10_registersW_269
    · have hm := (if_pos h8).symm.trans hm
      refine lv_aload_n hx hb dX10_registersW_213 rfl (lv_at hl 4 rfl) ?_
      refine eb_get (T := TX10) X hw 0 41 (by decide) ⟨rfl, rfl, rfl⟩ (by decide) (fun _ h => List.mem_cons_of_mem _ (inlX10 _ h)) (List.mem_cons_of_mem _ wi_30_10) (v := .int (σ.1 0 41)) rfl dX10_registersW_214 ?_
      refine lv_if_ne (tgt := 231) hx hb dX10_registersW_217 (by decide) (fun h18 => ?_) (fun h18 => ?_)
      · have hm := (if_neg h18).symm.trans hm
        refine lv_aload_n hx hb dX10_registersW_231 rfl (lv_at hl 4 rfl) ?_
        refine eb_get (T := TX10) X hw 0 41 (by decide) ⟨rfl, rfl, rfl⟩ (by decide) (fun _ h => List.mem_cons_of_mem _ (inlX10 _ h)) (List.mem_cons_of_mem _ wi_30_10) (v := .int (σ.1 0 41)) rfl dX10_registersW_232 ?_
        refine lv_iconst (v := 5) hx hb dX10_registersW_235 (by decide) ?_
        refine lv_icmp_ne (tgt := 253) hx hb dX10_registersW_236 (by decide) (fun h19 => ?_) (fun h19 => ?_)
        · have hm := (if_neg h19).symm.trans hm
          refine lv_aload_n hx hb dX10_registersW_253 rfl (lv_at hl 4 rfl) ?_
          obtain ⟨z20, qz20⟩ : ∃ t : Int32 × eb_St, t = m_X10_illegal σ := ⟨_, rfl⟩
          have hm : (z20.1, z20.2) = mm := by rw [qz20]; exact hm
          have jz20 : rJ z20.2 := J_X10_illegal qz20.symm hj_
          have hc : eb_M l yX10_illegal (Cond.code yX10_illegal cX10_illegal 1 (some .int) :: wsL_law) 1 23 D 18 cy rL ad σ [.ref (ad 0)] (some (.int z20.1)) z20.2 := by rw [qz20]; exact c_X10_illegal l D cy ad σ hj_
          refine eb_callV (n := 0) (as := []) (rest := []) X hw hl.1 0 hc (by decide) ⟨rfl, rfl, rfl⟩ (eb_goodV wi_32_23 wi_33_0 wi_33_1 wi_1_5 wi_33_2) rfl (by decide +kernel) ⟨by decide, by decide⟩ rfl rfl (Nat.le_of_ble_eq_true rfl) dX10_registersW_254 ⟨by decide, by decide⟩ (st' := [.int z20.1]) rfl (fun H locs hw => ?_)
          subst hm
          exact eb_iret X hw rfl rfl rfl dX10_registersW_257
        · have hm := (if_pos h19).symm.trans hm
          refine lv_aload_n hx hb dX10_registersW_239 rfl (lv_at hl 4 rfl) ?_
          refine lv_iload_n hx hb dX10_registersW_240 rfl (lv_at hl 3 rfl) ?_
          refine lv_iload_n hx hb dX10_registersW_241 rfl (lv_at hl 2 rfl) ?_
          refine lv_bipush (v := 31) hx hb dX10_registersW_242 (by decide) ?_
          refine lv_iand hx hb dX10_registersW_244 ?_
          refine lv_ishr hx hb dX10_registersW_245 ?_
          refine lv_i2l (v := (x2 >>> ((x4 &&& 31) &&& 31)).toInt64) hx hb dX10_registersW_246 rfl ?_
          obtain ⟨z21, qz21⟩ : ∃ t : Int32 × eb_St, t = m_X10_sets σ ((x2 >>> ((x4 &&& 31) &&& 31)).toInt64) := ⟨_, rfl⟩
          have hm : (z21.1, z21.2) = mm := by rw [qz21]; exact hm
          have jz21 : rJ z21.2 := J_X10_sets qz21.symm hj_
          have hc : eb_M l yX10_sets (Cond.code yX10_sets cX10_sets 3 (some .int) :: wsL_law) 2 43 D 18 cy rL ad σ [.ref (ad 0), .long ((x2 >>> ((x4 &&& 31) &&& 31)).toInt64)] (some (.int z21.1)) z21.2 := by rw [qz21]; exact c_X10_sets l D cy ad σ ((x2 >>> ((x4 &&& 31) &&& 31)).toInt64) hj_
          refine eb_callV (n := 1) (as := [.long ((x2 >>> ((x4 &&& 31) &&& 31)).toInt64)]) (rest := []) X hw hl.1 0 hc (by decide) ⟨rfl, rfl, rfl⟩ (eb_goodV wi_32_2 wi_32_3 wi_32_4 wi_1_5 wi_32_5) rfl (by decide +kernel) ⟨by decide, by decide⟩ rfl rfl (Nat.le_of_ble_eq_true rfl) dX10_registersW_247 ⟨by decide, by decide⟩ (st' := [.int z21.1]) rfl (fun H locs hw => ?_)
          refine lv_goto (tgt := 257) hx hb dX10_registersW_250 (by decide) ?_
          subst hm
          exact eb_iret X hw rfl rfl rfl dX10_registersW_257
      · have hm := (if_pos h18).symm.trans hm
        refine lv_aload_n hx hb dX10_registersW_220 rfl (lv_at hl 4 rfl) ?_
        refine lv_iload_n hx hb dX10_registersW_221 rfl (lv_at hl 3 rfl) ?_
        refine lv_iload_n hx hb dX10_registersW_222 rfl (lv_at hl 2 rfl) ?_
        refine lv_isub hx hb dX10_registersW_223 ?_
        refine lv_i2l (v := (x2 - x4).toInt64) hx hb dX10_registersW_224 rfl ?_
        obtain ⟨z22, qz22⟩ : ∃ t : Int32 × eb_St, t = m_X10_sets σ ((x2 - x4).toInt64) := ⟨_, rfl⟩
        have hm : (z22.1, z22.2) = mm := by rw [qz22]; exact hm
        have jz22 : rJ z22.2 := J_X10_sets qz22.symm hj_
        have hc : eb_M l yX10_sets (Cond.code yX10_sets cX10_sets 3 (some .int) :: wsL_law) 2 43 D 18 cy rL ad σ [.ref (ad 0), .long ((x2 - x4).toInt64)] (some (.int z22.1)) z22.2 := by rw [qz22]; exact c_X10_sets l D cy ad σ ((x2 - x4).toInt64) hj_
        refine eb_callV (n := 1) (as := [.long ((x2 - x4).toInt64)]) (rest := []) X hw hl.1 0 hc (by decide) ⟨rfl, rfl, rfl⟩ (eb_goodV wi_32_2 wi_32_3 wi_32_4 wi_1_5 wi_32_5) rfl (by decide +kernel) ⟨by decide, by decide⟩ rfl rfl (Nat.le_of_ble_eq_true rfl) dX10_registersW_225 ⟨by decide, by decide⟩ (st' := [.int z22.1]) rfl (fun H locs hw => ?_)
        refine lv_goto (tgt := 257) hx hb dX10_registersW_228 (by decide) ?_
        subst hm
        exact eb_iret X hw rfl rfl rfl dX10_registersW_257
  · have hm := (if_pos h7).symm.trans hm
    refine lv_aload_n hx hb dX10_registersW_43 rfl (lv_at hl 4 rfl) ?_
    refine eb_get (T := TX10) X hw 0 41 (by decide) ⟨rfl, rfl, rfl⟩ (by decide) (fun _ h => List.mem_cons_of_mem _ (inlX10 _ h)) (List.mem_cons_of_mem _ wi_30_10) (v := .int (σ.1 0 41)) rfl dX10_registersW_44 ?_
    by_cases h23 : (σ.1 0 41) = 0
    · have hm := (if_pos h23).symm.trans hm
      refine lv_tableIn (off := 45) (tgt := 92) hx hb dX10_registersW_47 (by rw [h23]; decide) (by rw [h23]; decide) (by rw [h23]; rfl) (by decide) ?_
      refine lv_aload_n hx hb dX10_registersW_92 rfl (lv_at hl 4 rfl) ?_
      refine lv_iload_n hx hb dX10_registersW_93 rfl (lv_at hl 3 rfl) ?_
      refine lv_iload_n hx hb dX10_registersW_94 rfl (lv_at hl 2 rfl) ?_
      refine lv_imul hx hb dX10_registersW_95 ?_
      refine lv_i2l (v := (x2 * x4).toInt64) hx hb dX10_registersW_96 rfl ?_
      obtain ⟨z24, qz24⟩ : ∃ t : Int32 × eb_St, t = m_X10_sets σ ((x2 * x4).toInt64) := ⟨_, rfl⟩
      have hm : (z24.1, z24.2) = mm := by rw [qz24]; exact hm
      have jz24 : rJ z24.2 := J_X10_sets qz24.symm hj_
      have hc : eb_M l yX10_sets (Cond.code yX10_sets cX10_sets 3 (some .int) :: wsL_law) 2 43 D 18 cy rL ad σ [.ref (ad 0), .long ((x2 * x4).toInt64)] (some (.int z24.1)) z24.2 := by rw [qz24]; exact c_X10_sets l D cy ad σ ((x2 * x4).toInt64) hj_
      refine eb_callV (n := 1) (as := [.long ((x2 * x4).toInt64)]) (rest := []) X hw hl.1 0 hc (by decide) ⟨rfl, rfl, rfl⟩ (eb_goodV wi_32_2 wi_32_3 wi_32_4 wi_1_5 wi_32_5) rfl (by decide +kernel) ⟨by decide, by decide⟩ rfl rfl (Nat.le_of_ble_eq_true rfl) dX10_registersW_97 ⟨by decide, by decide⟩ (st' := [.int z24.1]) rfl (fun H locs hw => ?_)
      subst hm
      exact eb_iret X hw rfl rfl rfl dX10_registersW_100
    · have hm := (if_neg h23).symm.trans hm
      by_cases h25 : (σ.1 0 41) = 1
      · have hm := (if_pos h25).symm.trans hm
        refine lv_tableIn (off := 152) (tgt := 199) hx hb dX10_registersW_47 (by rw [h25]; decide) (by rw [h25]; decide) (by rw [h25]; rfl) (by decide) ?_
        refine lv_aload_n hx hb dX10_registersW_199 rfl (lv_at hl 4 rfl) ?_
        obtain ⟨z26, qz26⟩ : ∃ t : Int32 × eb_St, t = m_X10_illegal σ := ⟨_, rfl⟩
        have hm : (z26.1, z26.2) = mm := by rw [qz26]; exact hm
        have jz26 : rJ z26.2 := J_X10_illegal qz26.symm hj_
        have hc : eb_M l yX10_illegal (Cond.code yX10_illegal cX10_illegal 1 (some .int) :: wsL_law) 1 23 D 18 cy rL ad σ [.ref (ad 0)] (some (.int z26.1)) z26.2 := by rw [qz26]; exact c_X10_illegal l D cy ad σ hj_
        refine eb_callV (n := 0) (as := []) (rest := []) X hw hl.1 0 hc (by decide) ⟨rfl, rfl, rfl⟩ (eb_goodV wi_32_23 wi_33_0 wi_33_1 wi_1_5 wi_33_2) rfl (by decide +kernel) ⟨by decide, by decide⟩ rfl rfl (Nat.le_of_ble_eq_true rfl) dX10_registersW_200 ⟨by decide, by decide⟩ (st' := [.int z26.1]) rfl (fun H locs hw => ?_)
        subst hm
        exact eb_iret X hw rfl rfl rfl dX10_registersW_203
      · have hm := (if_neg h25).symm.trans hm
        by_cases h27 : (σ.1 0 41) = 2
        · have hm := (if_pos h27).symm.trans hm
          refine lv_tableIn (off := 152) (tgt := 199) hx hb dX10_registersW_47 (by rw [h27]; decide) (by rw [h27]; decide) (by rw [h27]; rfl) (by decide) ?_
          refine lv_aload_n hx hb dX10_registersW_199 rfl (lv_at hl 4 rfl) ?_
          obtain ⟨z28, qz28⟩ : ∃ t : Int32 × eb_St, t = m_X10_illegal σ := ⟨_, rfl⟩
          have hm : (z28.1, z28.2) = mm := by rw [qz28]; exact hm
          have jz28 : rJ z28.2 := J_X10_illegal qz28.symm hj_
          have hc : eb_M l yX10_illegal (Cond.code yX10_illegal cX10_illegal 1 (some .int) :: wsL_law) 1 23 D 18 cy rL ad σ [.ref (ad 0)] (some (.int z28.1)) z28.2 := by rw [qz28]; exact c_X10_illegal l D cy ad σ hj_
          refine eb_callV (n := 0) (as := []) (rest := []) X hw hl.1 0 hc (by decide) ⟨rfl, rfl, rfl⟩ (eb_goodV wi_32_23 wi_33_0 wi_33_1 wi_1_5 wi_33_2) rfl (by decide +kernel) ⟨by decide, by decide⟩ rfl rfl (Nat.le_of_ble_eq_true rfl) dX10_registersW_200 ⟨by decide, by decide⟩ (st' := [.int z28.1]) rfl (fun H locs hw => ?_)
          subst hm
          exact eb_iret X hw rfl rfl rfl dX10_registersW_203
        · have hm := (if_neg h27).symm.trans hm
          by_cases h29 : (σ.1 0 41) = 3
          · have hm := (if_pos h29).symm.trans hm
            refine lv_tableIn (off := 152) (tgt := 199) hx hb dX10_registersW_47 (by rw [h29]; decide) (by rw [h29]; decide) (by rw [h29]; rfl) (by decide) ?_
            refine lv_aload_n hx hb dX10_registersW_199 rfl (lv_at hl 4 rfl) ?_
            obtain ⟨z30, qz30⟩ : ∃ t : Int32 × eb_St, t = m_X10_illegal σ := ⟨_, rfl⟩
            have hm : (z30.1, z30.2) = mm := by rw [qz30]; exact hm
            have jz30 : rJ z30.2 := J_X10_illegal qz30.symm hj_
            have hc : eb_M l yX10_illegal (Cond.code yX10_illegal cX10_illegal 1 (some .int) :: wsL_law) 1 23 D 18 cy rL ad σ [.ref (ad 0)] (some (.int z30.1)) z30.2 := by rw [qz30]; exact c_X10_illegal l D cy ad σ hj_
            refine eb_callV (n := 0) (as := []) (rest := []) X hw hl.1 0 hc (by decide) ⟨rfl, rfl, rfl⟩ (eb_goodV wi_32_23 wi_33_0 wi_33_1 wi_1_5 wi_33_2) rfl (by decide +kernel) ⟨by decide, by decide⟩ rfl rfl (Nat.le_of_ble_eq_true rfl) dX10_registersW_200 ⟨by decide, by decide⟩ (st' := [.int z30.1]) rfl (fun H locs hw => ?_)
            subst hm
            exact eb_iret X hw rfl rfl rfl dX10_registersW_203
          · have hm := (if_neg h29).symm.trans hm
            by_cases h31 : (σ.1 0 41) = 4
            · have hm := (if_pos h31).symm.trans hm
              refine lv_tableIn (off := 54) (tgt := 101) hx hb dX10_registersW_47 (by rw [h31]; decide) (by rw [h31]; decide) (by rw [h31]; rfl) (by decide) ?_
              refine lv_aload_n hx hb dX10_registersW_101 rfl (lv_at hl 4 rfl) ?_
              refine lv_iload_n hx hb dX10_registersW_102 rfl (lv_at hl 2 rfl) ?_
              refine lv_if_ne (tgt := 112) hx hb dX10_registersW_103 (by decide) (fun h32 => ?_) (fun h32 => ?_)
              · have hm := (if_neg h32).symm.trans hm
                refine lv_iload_n hx hb dX10_registersW_112 rfl (lv_at hl 2 rfl) ?_
                refine lv_iconst (v := (-1)) hx hb dX10_registersW_113 (by decide) ?_
                refine lv_icmp_ne (tgt := 123) hx hb dX10_registersW_114 (by decide) (fun h33 => ?_) (fun h33 => ?_)
                · have hm := (if_neg h33).symm.trans hm
                  refine lv_iload_n hx hb dX10_registersW_123 rfl (lv_at hl 3 rfl) ?_
                  refine lv_iload_n hx hb dX10_registersW_124 rfl (lv_at hl 2 rfl) ?_
                  refine lv_idiv hx hb dX10_registersW_125 (by assumption) ?_
                  refine lv_i2l (v := (x2 / x4).toInt64) hx hb dX10_registersW_126 rfl ?_
                  obtain ⟨z34, qz34⟩ : ∃ t : Int32 × eb_St, t = m_X10_sets σ ((x2 / x4).toInt64) := ⟨_, rfl⟩
                  have hm : (z34.1, z34.2) = mm := by rw [qz34]; exact hm
                  have jz34 : rJ z34.2 := J_X10_sets qz34.symm hj_
                  have hc : eb_M l yX10_sets (Cond.code yX10_sets cX10_sets 3 (some .int) :: wsL_law) 2 43 D 18 cy rL ad σ [.ref (ad 0), .long ((x2 / x4).toInt64)] (some (.int z34.1)) z34.2 := by rw [qz34]; exact c_X10_sets l D cy ad σ ((x2 / x4).toInt64) hj_
                  refine eb_callV (n := 1) (as := [.long ((x2 / x4).toInt64)]) (rest := []) X hw hl.1 0 hc (by decide) ⟨rfl, rfl, rfl⟩ (eb_goodV wi_32_2 wi_32_3 wi_32_4 wi_1_5 wi_32_5) rfl (by decide +kernel) ⟨by decide, by decide⟩ rfl rfl (Nat.le_of_ble_eq_true rfl) dX10_registersW_127 ⟨by decide, by decide⟩ (st' := [.int z34.1]) rfl (fun H locs hw => ?_)
                  subst hm
                  exact eb_iret X hw rfl rfl rfl dX10_registersW_130
                · have hm := (if_pos h33).symm.trans hm
                  refine lv_iload_n hx hb dX10_registersW_117 rfl (lv_at hl 3 rfl) ?_
                  refine lv_ineg hx hb dX10_registersW_118 ?_
                  refine lv_i2l (v := (-x2).toInt64) hx hb dX10_registersW_119 rfl ?_
                  refine lv_goto (tgt := 127) hx hb dX10_registersW_120 (by decide) ?_
                  obtain ⟨z35, qz35⟩ : ∃ t : Int32 × eb_St, t = m_X10_sets σ ((-x2).toInt64) := ⟨_, rfl⟩
                  have hm : (z35.1, z35.2) = mm := by rw [qz35]; exact hm
                  have jz35 : rJ z35.2 := J_X10_sets qz35.symm hj_
                  have hc : eb_M l yX10_sets (Cond.code yX10_sets cX10_sets 3 (some .int) :: wsL_law) 2 43 D 18 cy rL ad σ [.ref (ad 0), .long ((-x2).toInt64)] (some (.int z35.1)) z35.2 := by rw [qz35]; exact c_X10_sets l D cy ad σ ((-x2).toInt64) hj_
                  refine eb_callV (n := 1) (as := [.long ((-x2).toInt64)]) (rest := []) X hw hl.1 0 hc (by decide) ⟨rfl, rfl, rfl⟩ (eb_goodV wi_32_2 wi_32_3 wi_32_4 wi_1_5 wi_32_5) rfl (by decide +kernel) ⟨by decide, by decide⟩ rfl rfl (Nat.le_of_ble_eq_true rfl) dX10_registersW_127 ⟨by decide, by decide⟩ (st' := [.int z35.1]) rfl (fun H locs hw => ?_)
                  subst hm
                  exact eb_iret X hw rfl rfl rfl dX10_registersW_130
              · have hm := (if_pos h32).symm.trans hm
                refine lv_ldc2 hx hb hown (hts _ (List.mem_cons_of_mem _ wi_34_17)) dX10_registersW_106 ?_
                refine lv_goto (tgt := 127) hx hb dX10_registersW_109 (by decide) ?_
                obtain ⟨z36, qz36⟩ : ∃ t : Int32 × eb_St, t = m_X10_sets σ (-1) := ⟨_, rfl⟩
                have hm : (z36.1, z36.2) = mm := by rw [qz36]; exact hm
                have jz36 : rJ z36.2 := J_X10_sets qz36.symm hj_
                have hc : eb_M l yX10_sets (Cond.code yX10_sets cX10_sets 3 (some .int) :: wsL_law) 2 43 D 18 cy rL ad σ [.ref (ad 0), .long (-1)] (some (.int z36.1)) z36.2 := by rw [qz36]; exact c_X10_sets l D cy ad σ (-1) hj_
                refine eb_callV (n := 1) (as := [.long (-1)]) (rest := []) X hw hl.1 0 hc (by decide) ⟨rfl, rfl, rfl⟩ (eb_goodV wi_32_2 wi_32_3 wi_32_4 wi_1_5 wi_32_5) rfl (by decide +kernel) ⟨by decide, by decide⟩ rfl rfl (Nat.le_of_ble_eq_true rfl) dX10_registersW_127 ⟨by decide, by decide⟩ (st' := [.int z36.1]) rfl (fun H locs hw => ?_)
                subst hm
                exact eb_iret X hw rfl rfl rfl dX10_registersW_130
            · have hm := (if_neg h31).symm.trans hm
              by_cases h37 : (σ.1 0 41) = 5
              · have hm := (if_pos h37).symm.trans hm
                refine lv_tableIn (off := 84) (tgt := 131) hx hb dX10_registersW_47 (by rw [h37]; decide) (by rw [h37]; decide) (by rw [h37]; rfl) (by decide) ?_
                refine lv_aload_n hx hb dX10_registersW_131 rfl (lv_at hl 4 rfl) ?_
                refine lv_iload_n hx hb dX10_registersW_132 rfl (lv_at hl 2 rfl) ?_
                refine lv_if_ne (tgt := 142) hx hb dX10_registersW_133 (by decide) (fun h38 => ?_) (fun h38 => ?_)
                · have hm := (if_neg h38).symm.trans hm
                  refine lv_lload_n hx hb dX10_registersW_142 rfl (lv_at hl 1 rfl) ?_
                  refine lv_lload hx hb dX10_registersW_143 (lv_at hl 0 rfl) ?_
                  refine lv_ldiv hx hb dX10_registersW_145 (by rw [ex6]; exact eb_lowne h38) ?_
                  refine lv_l2i (v := (x5 / x6).toInt32) hx hb dX10_registersW_146 rfl ?_
                  refine lv_i2l (v := ((x5 / x6).toInt32).toInt64) hx hb dX10_registersW_147 rfl ?_
                  obtain ⟨z39, qz39⟩ : ∃ t : Int32 × eb_St, t = m_X10_sets σ (((x5 / x6).toInt32).toInt64) := ⟨_, rfl⟩
                  have hm : (z39.1, z39.2) = mm := by rw [qz39]; exact hm
                  have jz39 : rJ z39.2 := J_X10_sets qz39.symm hj_
                  have hc : eb_M l yX10_sets (Cond.code yX10_sets cX10_sets 3 (some .int) :: wsL_law) 2 43 D 18 cy rL ad σ [.ref (ad 0), .long (((x5 / x6).toInt32).toInt64)] (some (.int z39.1)) z39.2 := by rw [qz39]; exact c_X10_sets l D cy ad σ (((x5 / x6).toInt32).toInt64) hj_
                  refine eb_callV (n := 1) (as := [.long (((x5 / x6).toInt32).toInt64)]) (rest := []) X hw hl.1 0 hc (by decide) ⟨rfl, rfl, rfl⟩ (eb_goodV wi_32_2 wi_32_3 wi_32_4 wi_1_5 wi_32_5) rfl (by decide +kernel) ⟨by decide, by decide⟩ rfl rfl (Nat.le_of_ble_eq_true rfl) dX10_registersW_148 ⟨by decide, by decide⟩ (st' := [.int z39.1]) rfl (fun H locs hw => ?_)
                  subst hm
                  exact eb_iret X hw rfl rfl rfl dX10_registersW_151
                · have hm := (if_pos h38).symm.trans hm
                  refine lv_ldc2 hx hb hown (hts _ (List.mem_cons_of_mem _ wi_34_17)) dX10_registersW_136 ?_
                  refine lv_goto (tgt := 148) hx hb dX10_registersW_139 (by decide) ?_
                  obtain ⟨z40, qz40⟩ : ∃ t : Int32 × eb_St, t = m_X10_sets σ (-1) := ⟨_, rfl⟩
                  have hm : (z40.1, z40.2) = mm := by rw [qz40]; exact hm
                  have jz40 : rJ z40.2 := J_X10_sets qz40.symm hj_
                  have hc : eb_M l yX10_sets (Cond.code yX10_sets cX10_sets 3 (some .int) :: wsL_law) 2 43 D 18 cy rL ad σ [.ref (ad 0), .long (-1)] (some (.int z40.1)) z40.2 := by rw [qz40]; exact c_X10_sets l D cy ad σ (-1) hj_
                  refine eb_callV (n := 1) (as := [.long (-1)]) (rest := []) X hw hl.1 0 hc (by decide) ⟨rfl, rfl, rfl⟩ (eb_goodV wi_32_2 wi_32_3 wi_32_4 wi_1_5 wi_32_5) rfl (by decide +kernel) ⟨by decide, by decide⟩ rfl rfl (Nat.le_of_ble_eq_true rfl) dX10_registersW_148 ⟨by decide, by decide⟩ (st' := [.int z40.1]) rfl (fun H locs hw => ?_)
                  subst hm
                  exact eb_iret X hw rfl rfl rfl dX10_registersW_151
              · have hm := (if_neg h37).symm.trans hm
                by_cases h41 : (σ.1 0 41) = 6
                · have hm := (if_pos h41).symm.trans hm
                  refine lv_tableIn (off := 105) (tgt := 152) hx hb dX10_registersW_47 (by rw [h41]; decide) (by rw [h41]; decide) (by rw [h41]; rfl) (by decide) ?_
                  refine lv_aload_n hx hb dX10_registersW_152 rfl (lv_at hl 4 rfl) ?_
                  refine lv_iload_n hx hb dX10_registersW_153 rfl (lv_at hl 2 rfl) ?_
                  refine lv_if_ne (tgt := 162) hx hb dX10_registersW_154 (by decide) (fun h42 => ?_) (fun h42 => ?_)
                  · have hm := (if_neg h42).symm.trans hm
                    refine lv_iload_n hx hb dX10_registersW_162 rfl (lv_at hl 2 rfl) ?_
                    refine lv_iconst (v := (-1)) hx hb dX10_registersW_163 (by decide) ?_
                    refine lv_icmp_ne (tgt := 171) hx hb dX10_registersW_164 (by decide) (fun h43 => ?_) (fun h43 => ?_)
                    · have hm := (if_neg h43).symm.trans hm
                      refine lv_iload_n hx hb dX10_registersW_171 rfl (lv_at hl 3 rfl) ?_
                      refine lv_iload_n hx hb dX10_registersW_172 rfl (lv_at hl 2 rfl) ?_
                      refine lv_irem hx hb dX10_registersW_173 (by assumption) ?_
                      refine lv_i2l (v := (x2 - x2 / x4 * x4).toInt64) hx hb dX10_registersW_174 rfl ?_
                      obtain ⟨z44, qz44⟩ : ∃ t : Int32 × eb_St, t = m_X10_sets σ ((x2 - x2 / x4 * x4).toInt64) := ⟨_, rfl⟩
                      have hm : (z44.1, z44.2) = mm := by rw [qz44]; exact hm
                      have jz44 : rJ z44.2 := J_X10_sets qz44.symm hj_
                      have hc : eb_M l yX10_sets (Cond.code yX10_sets cX10_sets 3 (some .int) :: wsL_law) 2 43 D 18 cy rL ad σ [.ref (ad 0), .long ((x2 - x2 / x4 * x4).toInt64)] (some (.int z44.1)) z44.2 := by rw [qz44]; exact c_X10_sets l D cy ad σ ((x2 - x2 / x4 * x4).toInt64) hj_
                      refine eb_callV (n := 1) (as := [.long ((x2 - x2 / x4 * x4).toInt64)]) (rest := []) X hw hl.1 0 hc (by decide) ⟨rfl, rfl, rfl⟩ (eb_goodV wi_32_2 wi_32_3 wi_32_4 wi_1_5 wi_32_5) rfl (by decide +kernel) ⟨by decide, by decide⟩ rfl rfl (Nat.le_of_ble_eq_true rfl) dX10_registersW_175 ⟨by decide, by decide⟩ (st' := [.int z44.1]) rfl (fun H locs hw => ?_)
                      subst hm
                      exact eb_iret X hw rfl rfl rfl dX10_registersW_178
                    · have hm := (if_pos h43).symm.trans hm
                      refine lv_lconst (v := 0) hx hb dX10_registersW_167 (by decide) ?_
                      refine lv_goto (tgt := 175) hx hb dX10_registersW_168 (by decide) ?_
                      obtain ⟨z45, qz45⟩ : ∃ t : Int32 × eb_St, t = m_X10_sets σ 0 := ⟨_, rfl⟩
                      have hm : (z45.1, z45.2) = mm := by rw [qz45]; exact hm
                      have jz45 : rJ z45.2 := J_X10_sets qz45.symm hj_
                      have hc : eb_M l yX10_sets (Cond.code yX10_sets cX10_sets 3 (some .int) :: wsL_law) 2 43 D 18 cy rL ad σ [.ref (ad 0), .long 0] (some (.int z45.1)) z45.2 := by rw [qz45]; exact c_X10_sets l D cy ad σ 0 hj_
                      refine eb_callV (n := 1) (as := [.long 0]) (rest := []) X hw hl.1 0 hc (by decide) ⟨rfl, rfl, rfl⟩ (eb_goodV wi_32_2 wi_32_3 wi_32_4 wi_1_5 wi_32_5) rfl (by decide +kernel) ⟨by decide, by decide⟩ rfl rfl (Nat.le_of_ble_eq_true rfl) dX10_registersW_175 ⟨by decide, by decide⟩ (st' := [.int z45.1]) rfl (fun H locs hw => ?_)
                      subst hm
                      exact eb_iret X hw rfl rfl rfl dX10_registersW_178
                  · have hm := (if_pos h42).symm.trans hm
                    refine lv_iload_n hx hb dX10_registersW_157 rfl (lv_at hl 3 rfl) ?_
                    refine lv_i2l (v := x2.toInt64) hx hb dX10_registersW_158 rfl ?_
                    refine lv_goto (tgt := 175) hx hb dX10_registersW_159 (by decide) ?_
                    obtain ⟨z46, qz46⟩ : ∃ t : Int32 × eb_St, t = m_X10_sets σ x2.toInt64 := ⟨_, rfl⟩
                    have hm : (z46.1, z46.2) = mm := by rw [qz46]; exact hm
                    have jz46 : rJ z46.2 := J_X10_sets qz46.symm hj_
                    have hc : eb_M l yX10_sets (Cond.code yX10_sets cX10_sets 3 (some .int) :: wsL_law) 2 43 D 18 cy rL ad σ [.ref (ad 0), .long x2.toInt64] (some (.int z46.1)) z46.2 := by rw [qz46]; exact c_X10_sets l D cy ad σ x2.toInt64 hj_
                    refine eb_callV (n := 1) (as := [.long x2.toInt64]) (rest := []) X hw hl.1 0 hc (by decide) ⟨rfl, rfl, rfl⟩ (eb_goodV wi_32_2 wi_32_3 wi_32_4 wi_1_5 wi_32_5) rfl (by decide +kernel) ⟨by decide, by decide⟩ rfl rfl (Nat.le_of_ble_eq_true rfl) dX10_registersW_175 ⟨by decide, by decide⟩ (st' := [.int z46.1]) rfl (fun H locs hw => ?_)
                    subst hm
                    exact eb_iret X hw rfl rfl rfl dX10_registersW_178
                · have hm := (if_neg h41).symm.trans hm
                  by_cases h47 : (σ.1 0 41) = 7
                  · have hm := (if_pos h47).symm.trans hm
                    refine lv_tableIn (off := 132) (tgt := 179) hx hb dX10_registersW_47 (by rw [h47]; decide) (by rw [h47]; decide) (by rw [h47]; rfl) (by decide) ?_
                    refine lv_aload_n hx hb dX10_registersW_179 rfl (lv_at hl 4 rfl) ?_
                    refine lv_iload_n hx hb dX10_registersW_180 rfl (lv_at hl 2 rfl) ?_
                    refine lv_if_ne (tgt := 189) hx hb dX10_registersW_181 (by decide) (fun h48 => ?_) (fun h48 => ?_)
                    · have hm := (if_neg h48).symm.trans hm
                      refine lv_lload_n hx hb dX10_registersW_189 rfl (lv_at hl 1 rfl) ?_
                      refine lv_lload hx hb dX10_registersW_190 (lv_at hl 0 rfl) ?_
                      refine lv_lrem hx hb dX10_registersW_192 (by rw [ex6]; exact eb_lowne h48) ?_
                      refine lv_l2i (v := (x5 - x5 / x6 * x6).toInt32) hx hb dX10_registersW_193 rfl ?_
                      refine lv_i2l (v := ((x5 - x5 / x6 * x6).toInt32).toInt64) hx hb dX10_registersW_194 rfl ?_
                      obtain ⟨z49, qz49⟩ : ∃ t : Int32 × eb_St, t = m_X10_sets σ (((x5 - x5 / x6 * x6).toInt32).toInt64) := ⟨_, rfl⟩
                      have hm : (z49.1, z49.2) = mm := by rw [qz49]; exact hm
                      have jz49 : rJ z49.2 := J_X10_sets qz49.symm hj_
                      have hc : eb_M l yX10_sets (Cond.code yX10_sets cX10_sets 3 (some .int) :: wsL_law) 2 43 D 18 cy rL ad σ [.ref (ad 0), .long (((x5 - x5 / x6 * x6).toInt32).toInt64)] (some (.int z49.1)) z49.2 := by rw [qz49]; exact c_X10_sets l D cy ad σ (((x5 - x5 / x6 * x6).toInt32).toInt64) hj_
                      refine eb_callV (n := 1) (as := [.long (((x5 - x5 / x6 * x6).toInt32).toInt64)]) (rest := []) X hw hl.1 0 hc (by decide) ⟨rfl, rfl, rfl⟩ (eb_goodV wi_32_2 wi_32_3 wi_32_4 wi_1_5 wi_32_5) rfl (by decide +kernel) ⟨by decide, by decide⟩ rfl rfl (Nat.le_of_ble_eq_true rfl) dX10_registersW_195 ⟨by decide, by decide⟩ (st' := [.int z49.1]) rfl (fun H locs hw => ?_)
                      subst hm
                      exact eb_iret X hw rfl rfl rfl dX10_registersW_198
                    · have hm := (if_pos h48).symm.trans hm
                      refine lv_iload_n hx hb dX10_registersW_184 rfl (lv_at hl 3 rfl) ?_
                      refine lv_i2l (v := x2.toInt64) hx hb dX10_registersW_185 rfl ?_
                      refine lv_goto (tgt := 195) hx hb dX10_registersW_186 (by decide) ?_
                      obtain ⟨z50, qz50⟩ : ∃ t : Int32 × eb_St, t = m_X10_sets σ x2.toInt64 := ⟨_, rfl⟩
                      have hm : (z50.1, z50.2) = mm := by rw [qz50]; exact hm
                      have jz50 : rJ z50.2 := J_X10_sets qz50.symm hj_
                      have hc : eb_M l yX10_sets (Cond.code yX10_sets cX10_sets 3 (some .int) :: wsL_law) 2 43 D 18 cy rL ad σ [.ref (ad 0), .long x2.toInt64] (some (.int z50.1)) z50.2 := by rw [qz50]; exact c_X10_sets l D cy ad σ x2.toInt64 hj_
                      refine eb_callV (n := 1) (as := [.long x2.toInt64]) (rest := []) X hw hl.1 0 hc (by decide) ⟨rfl, rfl, rfl⟩ (eb_goodV wi_32_2 wi_32_3 wi_32_4 wi_1_5 wi_32_5) rfl (by decide +kernel) ⟨by decide, by decide⟩ rfl rfl (Nat.le_of_ble_eq_true rfl) dX10_registersW_195 ⟨by decide, by decide⟩ (st' := [.int z50.1]) rfl (fun H locs hw => ?_)
                      subst hm
                      exact eb_iret X hw rfl rfl rfl dX10_registersW_198
                  · have hm := (if_neg h47).symm.trans hm
                    refine lv_tableOut (tgt := 199) hx hb dX10_registersW_47 (by have qh23 := lv_neT h23 (a := 0) (by decide); have qh25 := lv_neT h25 (a := 1) (by decide); have qh27 := lv_neT h27 (a := 2) (by decide); have qh29 := lv_neT h29 (a := 3) (by decide); have qh31 := lv_neT h31 (a := 4) (by decide); have qh37 := lv_neT h37 (a := 5) (by decide); have qh41 := lv_neT h41 (a := 6) (by decide); have qh47 := lv_neT h47 (a := 7) (by decide); omega) (by decide) ?_
                    refine lv_aload_n hx hb dX10_registersW_199 rfl (lv_at hl 4 rfl) ?_
                    obtain ⟨z51, qz51⟩ : ∃ t : Int32 × eb_St, t = m_X10_illegal σ := ⟨_, rfl⟩
                    have hm : (z51.1, z51.2) = mm := by rw [qz51]; exact hm
                    have jz51 : rJ z51.2 := J_X10_illegal qz51.symm hj_
                    have hc : eb_M l yX10_illegal (Cond.code yX10_illegal cX10_illegal 1 (some .int) :: wsL_law) 1 23 D 18 cy rL ad σ [.ref (ad 0)] (some (.int z51.1)) z51.2 := by rw [qz51]; exact c_X10_illegal l D cy ad σ hj_
                    refine eb_callV (n := 0) (as := []) (rest := []) X hw hl.1 0 hc (by decide) ⟨rfl, rfl, rfl⟩ (eb_goodV wi_32_23 wi_33_0 wi_33_1 wi_1_5 wi_33_2) rfl (by decide +kernel) ⟨by decide, by decide⟩ rfl rfl (Nat.le_of_ble_eq_true rfl) dX10_registersW_200 ⟨by decide, by decide⟩ (st' := [.int z51.1]) rfl (fun H locs hw => ?_)
                    subst hm
                    exact eb_iret X hw rfl rfl rfl dX10_registersW_203

theorem J_X10_branches_171 {σ : eb_St} {v1 : Int64} {v7 : Int32} {mm : Int32 × eb_St} (hm : (m_X10_branches_171  σ v1 v7) = mm) (hj_ : rJ σ) : rJ mm.2 := by
  have hm : (if v7 = 0 then (fun (z27 : Int32 × eb_St) => (z27.1, z27.2)) (m_X10_goesOn σ) else (fun (x23 : Int64) => (if (x23 &&& (3 : Int64)) = 0 then (fun (z25 : Int32) => ((-1), eb_pJ σ 3 z25.toNatClampNeg x23)) (m_X10_set σ) else (fun (z26 : Int32 × eb_St) => (z26.1, z26.2)) (m_X10_fault σ 0 x23))) (v1 + (((((((σ.1 0 37) >>> (31 &&& 31)) <<< (12 &&& 31)) ||| (((σ.1 0 37) <<< (4 &&& 31)) &&& (2048 : Int32))) ||| (((σ.1 0 37) >>> (20 &&& 31)) &&& (2016 : Int32))) ||| (((σ.1 0 37) >>> (7 &&& 31)) &&& (30 : Int32))).toInt64))) = mm := hm
  refine eb_emn (c := v7 = 0) (fun h22 => ?_) (fun h22 => ?_)
  · have hm := (if_neg h22).symm.trans hm
    obtain ⟨x23, ex23⟩ : ∃ z : Int64, z = v1 + (((((((σ.1 0 37) >>> (31 &&& 31)) <<< (12 &&& 31)) ||| (((σ.1 0 37) <<< (4 &&& 31)) &&& (2048 : Int32))) ||| (((σ.1 0 37) >>> (20 &&& 31)) &&& (2016 : Int32))) ||| (((σ.1 0 37) >>> (7 &&& 31)) &&& (30 : Int32))).toInt64) := ⟨_, rfl⟩
    have hm : (if (x23 &&& (3 : Int64)) = 0 then (fun (z25 : Int32) => ((-1), eb_pJ σ 3 z25.toNatClampNeg x23)) (m_X10_set σ) else (fun (z26 : Int32 × eb_St) => (z26.1, z26.2)) (m_X10_fault σ 0 x23)) = mm := by rw [ex23]; exact hm
    refine eb_em (c := (x23 &&& (3 : Int64)) = 0) (fun h24 => ?_) (fun h24 => ?_)
    · have hm := (if_pos h24).symm.trans hm
      obtain ⟨z25, qz25⟩ : ∃ t : Int32, t = m_X10_set σ := ⟨_, rfl⟩
      have hm : ((-1), eb_pJ σ 3 z25.toNatClampNeg x23) = mm := by rw [qz25]; exact hm
      subst hm
      exact hj_
    · have hm := (if_neg h24).symm.trans hm
      obtain ⟨z26, qz26⟩ : ∃ t : Int32 × eb_St, t = m_X10_fault σ 0 x23 := ⟨_, rfl⟩
      have hm : (z26.1, z26.2) = mm := by rw [qz26]; exact hm
      have jz26 : rJ z26.2 := J_X10_fault qz26.symm hj_
      subst hm
      exact jz26
  · have hm := (if_pos h22).symm.trans hm
    obtain ⟨z27, qz27⟩ : ∃ t : Int32 × eb_St, t = m_X10_goesOn σ := ⟨_, rfl⟩
    have hm : (z27.1, z27.2) = mm := by rw [qz27]; exact hm
    have jz27 : rJ z27.2 := J_X10_goesOn qz27.symm hj_
    subst hm
    exact jz27
theorem J_X10_branches_80 {σ : eb_St} {v1 : Int64} {s0 : Int32} {mm : Int32 × eb_St} (hm : (m_X10_branches_80  σ v1 s0) = mm) (hj_ : rJ σ) : rJ mm.2 := by
  have hm : m_X10_branches_171  σ v1 s0 = mm := hm
  exact J_X10_branches_171 hm hj_
theorem J_X10_branches_97 {σ : eb_St} {v1 : Int64} {s0 : Int32} {mm : Int32 × eb_St} (hm : (m_X10_branches_97  σ v1 s0) = mm) (hj_ : rJ σ) : rJ mm.2 := by
  have hm : m_X10_branches_171  σ v1 s0 = mm := hm
  exact J_X10_branches_171 hm hj_
theorem J_X10_branches_114 {σ : eb_St} {v1 : Int64} {s0 : Int32} {mm : Int32 × eb_St} (hm : (m_X10_branches_114  σ v1 s0) = mm) (hj_ : rJ σ) : rJ mm.2 := by
  have hm : m_X10_branches_171  σ v1 s0 = mm := hm
  exact J_X10_branches_171 hm hj_
theorem J_X10_branches_131 {σ : eb_St} {v1 : Int64} {s0 : Int32} {mm : Int32 × eb_St} (hm : (m_X10_branches_131  σ v1 s0) = mm) (hj_ : rJ σ) : rJ mm.2 := by
  have hm : m_X10_branches_171  σ v1 s0 = mm := hm
  exact J_X10_branches_171 hm hj_
theorem J_X10_branches_161 {σ : eb_St} {v1 : Int64} {s0 : Int32} {mm : Int32 × eb_St} (hm : (m_X10_branches_161  σ v1 s0) = mm) (hj_ : rJ σ) : rJ mm.2 := by
  have hm : m_X10_branches_171  σ v1 s0 = mm := hm
  exact J_X10_branches_171 hm hj_
theorem J_X10_branches {σ : eb_St} {a0 : Int64} {mm : Int32 × eb_St} (hm : m_X10_branches σ a0 = mm) (hj_ : rJ σ) : rJ mm.2 := by
  have hm : (fun (z1 : Int64) => (fun (z2 : Int64) => (if (σ.1 0 41) = 0 then (if z1 = z2 then m_X10_branches_80  σ a0 1 else m_X10_branches_80  σ a0 0) else if (σ.1 0 41) = 1 then (if z1 = z2 then m_X10_branches_97  σ a0 0 else m_X10_branches_97  σ a0 1) else if (σ.1 0 41) = 2 then (fun (z8 : Int32 × eb_St) => (z8.1, z8.2)) (m_X10_illegal σ) else if (σ.1 0 41) = 3 then (fun (z10 : Int32 × eb_St) => (z10.1, z10.2)) (m_X10_illegal σ) else if (σ.1 0 41) = 4 then (if z2 ≤ z1 then m_X10_branches_114  σ a0 0 else m_X10_branches_114  σ a0 1) else if (σ.1 0 41) = 5 then (if z1 < z2 then m_X10_branches_131  σ a0 0 else m_X10_branches_131  σ a0 1) else if (σ.1 0 41) = 6 then (fun (z16 : Bool) => (fun (x17 : Int32) => m_X10_branches_171  σ a0 x17) (eb_b z16)) (m_X10_isBelow z1 z2) else if (σ.1 0 41) = 7 then (fun (z19 : Bool) => (if (eb_b z19) = 0 then m_X10_branches_161  σ a0 1 else m_X10_branches_161  σ a0 0)) (m_X10_isBelow z1 z2) else (fun (z21 : Int32 × eb_St) => (z21.1, z21.2)) (m_X10_illegal σ))) (m_X10_x σ (σ.1 0 40))) (m_X10_x σ (σ.1 0 39)) = mm := hm
  obtain ⟨z1, qz1⟩ : ∃ t : Int64, t = m_X10_x σ (σ.1 0 39) := ⟨_, rfl⟩
  have hm : (fun (z2 : Int64) => (if (σ.1 0 41) = 0 then (if z1 = z2 then m_X10_branches_80  σ a0 1 else m_X10_branches_80  σ a0 0) else if (σ.1 0 41) = 1 then (if z1 = z2 then m_X10_branches_97  σ a0 0 else m_X10_branches_97  σ a0 1) else if (σ.1 0 41) = 2 then (fun (z8 : Int32 × eb_St) => (z8.1, z8.2)) (m_X10_illegal σ) else if (σ.1 0 41) = 3 then (fun (z10 : Int32 × eb_St) => (z10.1, z10.2)) (m_X10_illegal σ) else if (σ.1 0 41) = 4 then (if z2 ≤ z1 then m_X10_branches_114  σ a0 0 else m_X10_branches_114  σ a0 1) else if (σ.1 0 41) = 5 then (if z1 < z2 then m_X10_branches_131  σ a0 0 else m_X10_branches_131  σ a0 1) else if (σ.1 0 41) = 6 then (fun (z16 : Bool) => (fun (x17 : Int32) => m_X10_branches_171  σ a0 x17) (eb_b z16)) (m_X10_isBelow z1 z2) else if (σ.1 0 41) = 7 then (fun (z19 : Bool) => (if (eb_b z19) = 0 then m_X10_branches_161  σ a0 1 else m_X10_branches_161  σ a0 0)) (m_X10_isBelow z1 z2) else (fun (z21 : Int32 × eb_St) => (z21.1, z21.2)) (m_X10_illegal σ))) (m_X10_x σ (σ.1 0 40)) = mm := by rw [qz1]; exact hm
  obtain ⟨z2, qz2⟩ : ∃ t : Int64, t = m_X10_x σ (σ.1 0 40) := ⟨_, rfl⟩
  have hm : (if (σ.1 0 41) = 0 then (if z1 = z2 then m_X10_branches_80  σ a0 1 else m_X10_branches_80  σ a0 0) else if (σ.1 0 41) = 1 then (if z1 = z2 then m_X10_branches_97  σ a0 0 else m_X10_branches_97  σ a0 1) else if (σ.1 0 41) = 2 then (fun (z8 : Int32 × eb_St) => (z8.1, z8.2)) (m_X10_illegal σ) else if (σ.1 0 41) = 3 then (fun (z10 : Int32 × eb_St) => (z10.1, z10.2)) (m_X10_illegal σ) else if (σ.1 0 41) = 4 then (if z2 ≤ z1 then m_X10_branches_114  σ a0 0 else m_X10_branches_114  σ a0 1) else if (σ.1 0 41) = 5 then (if z1 < z2 then m_X10_branches_131  σ a0 0 else m_X10_branches_131  σ a0 1) else if (σ.1 0 41) = 6 then (fun (z16 : Bool) => (fun (x17 : Int32) => m_X10_branches_171  σ a0 x17) (eb_b z16)) (m_X10_isBelow z1 z2) else if (σ.1 0 41) = 7 then (fun (z19 : Bool) => (if (eb_b z19) = 0 then m_X10_branches_161  σ a0 1 else m_X10_branches_161  σ a0 0)) (m_X10_isBelow z1 z2) else (fun (z21 : Int32 × eb_St) => (z21.1, z21.2)) (m_X10_illegal σ)) = mm := by rw [qz2]; exact hm
  by_cases h3 : (σ.1 0 41) = 0
  · have hm := (if_pos h3).symm.trans hm
    refine eb_emn (c := z1 = z2) (fun h4 => ?_) (fun h4 => ?_)
    · have hm := (if_neg h4).symm.trans hm
      exact J_X10_branches_80 hm hj_
    · have hm := (if_pos h4).symm.trans hm
      exact J_X10_branches_80 hm hj_
  · have hm := (if_neg h3).symm.trans hm
    by_cases h5 : (σ.1 0 41) = 1
    · have hm := (if_pos h5).symm.trans hm
      refine eb_em (c := z1 = z2) (fun h6 => ?_) (fun h6 => ?_)
      · have hm := (if_pos h6).symm.trans hm
        exact J_X10_branches_97 hm hj_
      · have hm := (if_neg h6).symm.trans hm
        exact J_X10_branches_97 hm hj_
    · have hm := (if_neg h5).symm.trans hm
      by_cases h7 : (σ.1 0 41) = 2
      · have hm := (if_pos h7).symm.trans hm
        obtain ⟨z8, qz8⟩ : ∃ t : Int32 × eb_St, t = m_X10_illegal σ := ⟨_, rfl⟩
        have hm : (z8.1, z8.2) = mm := by rw [qz8]; exact hm
        have jz8 : rJ z8.2 := J_X10_illegal qz8.symm hj_
        subst hm
        exact jz8
      · have hm := (if_neg h7).symm.trans hm
        by_cases h9 : (σ.1 0 41) = 3
        · have hm := (if_pos h9).symm.trans hm
          obtain ⟨z10, qz10⟩ : ∃ t : Int32 × eb_St, t = m_X10_illegal σ := ⟨_, rfl⟩
          have hm : (z10.1, z10.2) = mm := by rw [qz10]; exact hm
          have jz10 : rJ z10.2 := J_X10_illegal qz10.symm hj_
          subst hm
          exact jz10
        · have hm := (if_neg h9).symm.trans hm
          by_cases h11 : (σ.1 0 41) = 4
          · have hm := (if_pos h11).symm.trans hm
            refine eb_em (c := z2 ≤ z1) (fun h12 => ?_) (fun h12 => ?_)
            · have hm := (if_pos h12).symm.trans hm
              exact J_X10_branches_114 hm hj_
            · have hm := (if_neg h12).symm.trans hm
              exact J_X10_branches_114 hm hj_
          · have hm := (if_neg h11).symm.trans hm
            by_cases h13 : (σ.1 0 41) = 5
            · have hm := (if_pos h13).symm.trans hm
              refine eb_em (c := z1 < z2) (fun h14 => ?_) (fun h14 => ?_)
              · have hm := (if_pos h14).symm.trans hm
                exact J_X10_branches_131 hm hj_
              · have hm := (if_neg h14).symm.trans hm
                exact J_X10_branches_131 hm hj_
            · have hm := (if_neg h13).symm.trans hm
              by_cases h15 : (σ.1 0 41) = 6
              · have hm := (if_pos h15).symm.trans hm
                obtain ⟨z16, qz16⟩ : ∃ t : Bool, t = m_X10_isBelow z1 z2 := ⟨_, rfl⟩
                have hm : (fun (x17 : Int32) => m_X10_branches_171  σ a0 x17) (eb_b z16) = mm := by rw [qz16]; exact hm
                obtain ⟨x17, ex17⟩ : ∃ z : Int32, z = eb_b z16 := ⟨_, rfl⟩
                have hm : m_X10_branches_171  σ a0 x17 = mm := by rw [ex17]; exact hm
                exact J_X10_branches_171 hm hj_
              · have hm := (if_neg h15).symm.trans hm
                by_cases h18 : (σ.1 0 41) = 7
                · have hm := (if_pos h18).symm.trans hm
                  obtain ⟨z19, qz19⟩ : ∃ t : Bool, t = m_X10_isBelow z1 z2 := ⟨_, rfl⟩
                  have hm : (if (eb_b z19) = 0 then m_X10_branches_161  σ a0 1 else m_X10_branches_161  σ a0 0) = mm := by rw [qz19]; exact hm
                  refine eb_emn (c := (eb_b z19) = 0) (fun h20 => ?_) (fun h20 => ?_)
                  · have hm := (if_neg h20).symm.trans hm
                    exact J_X10_branches_161 hm hj_
                  · have hm := (if_pos h20).symm.trans hm
                    exact J_X10_branches_161 hm hj_
                · have hm := (if_neg h18).symm.trans hm
                  obtain ⟨z21, qz21⟩ : ∃ t : Int32 × eb_St, t = m_X10_illegal σ := ⟨_, rfl⟩
                  have hm : (z21.1, z21.2) = mm := by rw [qz21]; exact hm
                  have jz21 : rJ z21.2 := J_X10_illegal qz21.symm hj_
                  subst hm
                  exact jz21
set_option maxHeartbeats 4000000 in
set_option maxRecDepth 100000 in
theorem k_X10_branches_171 {p : Program} {l : Launch} {e : Env} {s : State} {m : MethodId} {args : Array Value} {below : List Frame} {meth : Method} {c : Code} {A : Nat → Prop} {H : Heap} {locs : List Loc} {ls : Array Slot} {D : va_G} {cy : Nat → ClassId} {ad : Nat → Nat} (X : eb_X p s m args meth c cX10_branches 10 RX10 (Cond.code yX10_branches cX10_branches 10 (some .int) :: wsL_law) (some .int) D cy A)   (σ : eb_St) (v1 : Int64) (v7 : Int32) (hj_ : rJ σ) {mm : Int32 × eb_St} (hm : (m_X10_branches_171  σ v1 v7) = mm) (hw : eb_H D 18 cy rL ad A s.heap σ H locs) (hl : lv_has ls 10 [(0, .ref (ad 0)), (1, .long v1), (7, .int v7)]) : W p l e ({ frames := 2, cells := 0, slots := 0, locals := 43 } : Room) s m args below meth c H locs 0 0 (MQ below (eb_Q D 18 cy rL ad A (some (.int mm.1)) mm.2) args s 0 0 A) (F0 m 171 ls []) := by
  have hx := X.1.1
  have hb := X.1.2.1
  have hown := X.1.2.2.2.1
  have hts := X.1.2.2.2.2
  have hm : (if v7 = 0 then (fun (z27 : Int32 × eb_St) => (z27.1, z27.2)) (m_X10_goesOn σ) else (fun (x23 : Int64) => (if (x23 &&& (3 : Int64)) = 0 then (fun (z25 : Int32) => ((-1), eb_pJ σ 3 z25.toNatClampNeg x23)) (m_X10_set σ) else (fun (z26 : Int32 × eb_St) => (z26.1, z26.2)) (m_X10_fault σ 0 x23))) (v1 + (((((((σ.1 0 37) >>> (31 &&& 31)) <<< (12 &&& 31)) ||| (((σ.1 0 37) <<< (4 &&& 31)) &&& (2048 : Int32))) ||| (((σ.1 0 37) >>> (20 &&& 31)) &&& (2016 : Int32))) ||| (((σ.1 0 37) >>> (7 &&& 31)) &&& (30 : Int32))).toInt64))) = mm := hm
  refine lv_iload hx hb dX10_branches_171 (lv_at hl 2 rfl) ?_
  refine lv_if_ne (tgt := 181) hx hb dX10_branches_173 (by decide) (fun h22 => ?_) (fun h22 => ?_)
  · have hm := (if_neg h22).symm.trans hm
    refine lv_lload_n hx hb dX10_branches_181 rfl (lv_at hl 1 rfl) ?_
    refine lv_aload_n hx hb dX10_branches_182 rfl (lv_at hl 0 rfl) ?_
    refine eb_get (T := TX10) X hw 0 37 (by decide) ⟨rfl, rfl, rfl⟩ (by decide) (fun _ h => List.mem_cons_of_mem _ (inlX10 _ h)) (List.mem_cons_of_mem _ wi_30_8) (v := .int (σ.1 0 37)) rfl dX10_branches_183 ?_
    refine lv_bipush (v := 31) hx hb dX10_branches_186 (by decide) ?_
    refine lv_ishr hx hb dX10_branches_188 ?_
    refine lv_bipush (v := 12) hx hb dX10_branches_189 (by decide) ?_
    refine lv_ishl hx hb dX10_branches_191 ?_
    refine lv_aload_n hx hb dX10_branches_192 rfl (lv_at hl 0 rfl) ?_
    refine eb_get (T := TX10) X hw 0 37 (by decide) ⟨rfl, rfl, rfl⟩ (by decide) (fun _ h => List.mem_cons_of_mem _ (inlX10 _ h)) (List.mem_cons_of_mem _ wi_30_8) (v := .int (σ.1 0 37)) rfl dX10_branches_193 ?_
    refine lv_iconst (v := 4) hx hb dX10_branches_196 (by decide) ?_
    refine lv_ishl hx hb dX10_branches_197 ?_
    refine lv_sipush (v := 2048) hx hb dX10_branches_198 (by decide) ?_
    refine lv_iand hx hb dX10_branches_201 ?_
    refine lv_ior hx hb dX10_branches_202 ?_
    refine lv_aload_n hx hb dX10_branches_203 rfl (lv_at hl 0 rfl) ?_
    refine eb_get (T := TX10) X hw 0 37 (by decide) ⟨rfl, rfl, rfl⟩ (by decide) (fun _ h => List.mem_cons_of_mem _ (inlX10 _ h)) (List.mem_cons_of_mem _ wi_30_8) (v := .int (σ.1 0 37)) rfl dX10_branches_204 ?_
    refine lv_bipush (v := 20) hx hb dX10_branches_207 (by decide) ?_
    refine lv_ishr hx hb dX10_branches_209 ?_
    refine lv_sipush (v := 2016) hx hb dX10_branches_210 (by decide) ?_
    refine lv_iand hx hb dX10_branches_213 ?_
    refine lv_ior hx hb dX10_branches_214 ?_
    refine lv_aload_n hx hb dX10_branches_215 rfl (lv_at hl 0 rfl) ?_
    refine eb_get (T := TX10) X hw 0 37 (by decide) ⟨rfl, rfl, rfl⟩ (by decide) (fun _ h => List.mem_cons_of_mem _ (inlX10 _ h)) (List.mem_cons_of_mem _ wi_30_8) (v := .int (σ.1 0 37)) rfl dX10_branches_216 ?_
    refine lv_bipush (v := 7) hx hb dX10_branches_219 (by decide) ?_
    refine lv_ishr hx hb dX10_branches_221 ?_
    refine lv_bipush (v := 30) hx hb dX10_branches_222 (by decide) ?_
    refine lv_iand hx hb dX10_branches_224 ?_
    refine lv_ior hx hb dX10_branches_225 ?_
    refine lv_i2l (v := ((((((σ.1 0 37) >>> (31 &&& 31)) <<< (12 &&& 31)) ||| (((σ.1 0 37) <<< (4 &&& 31)) &&& (2048 : Int32))) ||| (((σ.1 0 37) >>> (20 &&& 31)) &&& (2016 : Int32))) ||| (((σ.1 0 37) >>> (7 &&& 31)) &&& (30 : Int32))).toInt64) hx hb dX10_branches_226 rfl ?_
    refine lv_ladd hx hb dX10_branches_227 ?_
    refine lv_topl (fun x23 ex23 => ?_)
    have hm : (if (x23 &&& (3 : Int64)) = 0 then (fun (z25 : Int32) => ((-1), eb_pJ σ 3 z25.toNatClampNeg x23)) (m_X10_set σ) else (fun (z26 : Int32 × eb_St) => (z26.1, z26.2)) (m_X10_fault σ 0 x23)) = mm := by rw [ex23]; exact hm
    refine lv_lstore (lv' := [(8, .long x23), (0, .ref (ad 0)), (1, .long v1), (7, .int v7)]) hx hb dX10_branches_228 hl (by decide) rfl (fun ls hl => ?_)
    refine lv_lload hx hb dX10_branches_230 (lv_at hl 0 rfl) ?_
    refine lv_ldc2 hx hb hown (hts _ (List.mem_cons_of_mem _ wi_30_7)) dX10_branches_232 ?_
    refine lv_land hx hb dX10_branches_235 ?_
    refine lv_lconst (v := 0) hx hb dX10_branches_236 (by decide) ?_
    refine eb_lif_eq (tgt := 249) hx hb dX10_branches_237 dX10_branches_238 (by decide) (fun h24 => ?_) (fun h24 => ?_)
    · have hm := (if_pos h24).symm.trans hm
      refine lv_aload_n hx hb dX10_branches_249 rfl (lv_at hl 1 rfl) ?_
      refine eb_get (T := TX10) X hw 0 3 (by decide) ⟨rfl, rfl, rfl⟩ (by decide) (fun _ h => List.mem_cons_of_mem _ (inlX10 _ h)) (List.mem_cons_of_mem _ wi_5_10) (v := .ref (ad 3)) rfl dX10_branches_250 ?_
      refine lv_aload_n hx hb dX10_branches_253 rfl (lv_at hl 1 rfl) ?_
      obtain ⟨z25, qz25⟩ : ∃ t : Int32, t = m_X10_set σ := ⟨_, rfl⟩
      have hm : ((-1), eb_pJ σ 3 z25.toNatClampNeg x23) = mm := by rw [qz25]; exact hm
      have hc : eb_M l yX10_set (Cond.code yX10_set cX10_set 1 (some .int) :: wsL_law) 0 0 D 18 cy rL ad σ [.ref (ad 0)] (some (.int z25)) σ := by rw [qz25]; exact c_X10_set l D cy ad σ 
      refine eb_callV (n := 0) (as := []) (rest := [.ref (ad 3)]) X hw hl.1 0 hc (by decide) ⟨rfl, rfl, rfl⟩ (eb_goodV wi_30_16 wi_30_17 wi_30_18 wi_1_5 wi_30_19) rfl (by decide +kernel) ⟨by decide, by decide⟩ rfl rfl (Nat.le_of_ble_eq_true rfl) dX10_branches_254 ⟨by decide, by decide⟩ (st' := [.int z25, .ref (ad 3)]) rfl (fun H locs hw => ?_)
      refine lv_lload hx hb dX10_branches_257 (lv_at hl 0 rfl) ?_
      refine eb_last (n := 7) X hw 3 (by decide) rfl rfl (by rw [qz25]; exact l_X10_set hj_) dX10_branches_259 (fun H locs hw => ?_)
      refine lv_iconst (v := (-1)) hx hb dX10_branches_260 (by decide) ?_
      subst hm
      exact eb_iret X hw rfl rfl rfl dX10_branches_261
    · have hm := (if_neg h24).symm.trans hm
      refine lv_aload_n hx hb dX10_branches_241 rfl (lv_at hl 1 rfl) ?_
      refine lv_iconst (v := 0) hx hb dX10_branches_242 (by decide) ?_
      refine lv_lload hx hb dX10_branches_243 (lv_at hl 0 rfl) ?_
      obtain ⟨z26, qz26⟩ : ∃ t : Int32 × eb_St, t = m_X10_fault σ 0 x23 := ⟨_, rfl⟩
      have hm : (z26.1, z26.2) = mm := by rw [qz26]; exact hm
      have jz26 : rJ z26.2 := J_X10_fault qz26.symm hj_
      have hc : eb_M l yX10_fault (Cond.code yX10_fault cX10_fault 4 (some .int) :: wsL_law) 0 0 D 18 cy rL ad σ [.ref (ad 0), .int 0, .long x23] (some (.int z26.1)) z26.2 := by rw [qz26]; exact c_X10_fault l D cy ad σ 0 x23 hj_
      refine eb_callV (n := 2) (as := [.int 0, .long x23]) (rest := []) X hw hl.1 0 hc (by decide) ⟨rfl, rfl, rfl⟩ (eb_goodV wi_30_20 wi_30_21 wi_30_22 wi_1_5 wi_30_23) rfl (by decide +kernel) ⟨by decide, by decide⟩ rfl rfl (Nat.le_of_ble_eq_true rfl) dX10_branches_245 ⟨by decide, by decide⟩ (st' := [.int z26.1]) rfl (fun H locs hw => ?_)
      subst hm
      exact eb_iret X hw rfl rfl rfl dX10_branches_248
  · have hm := (if_pos h22).symm.trans hm
    refine lv_aload_n hx hb dX10_branches_176 rfl (lv_at hl 0 rfl) ?_
    obtain ⟨z27, qz27⟩ : ∃ t : Int32 × eb_St, t = m_X10_goesOn σ := ⟨_, rfl⟩
    have hm : (z27.1, z27.2) = mm := by rw [qz27]; exact hm
    have jz27 : rJ z27.2 := J_X10_goesOn qz27.symm hj_
    have hc : eb_M l yX10_goesOn (Cond.code yX10_goesOn cX10_goesOn 1 (some .int) :: wsL_law) 1 20 D 18 cy rL ad σ [.ref (ad 0)] (some (.int z27.1)) z27.2 := by rw [qz27]; exact c_X10_goesOn l D cy ad σ hj_
    refine eb_callV (n := 0) (as := []) (rest := []) X hw hl.1 0 hc (by decide) ⟨rfl, rfl, rfl⟩ (eb_goodV wi_32_10 wi_32_11 wi_32_12 wi_1_5 wi_32_13) rfl (by decide +kernel) ⟨by decide, by decide⟩ rfl rfl (Nat.le_of_ble_eq_true rfl) dX10_branches_177 ⟨by decide, by decide⟩ (st' := [.int z27.1]) rfl (fun H locs hw => ?_)
    subst hm
    exact eb_iret X hw rfl rfl rfl dX10_branches_180
set_option maxHeartbeats 4000000 in
set_option maxRecDepth 100000 in
theorem k_X10_branches_80 {p : Program} {l : Launch} {e : Env} {s : State} {m : MethodId} {args : Array Value} {below : List Frame} {meth : Method} {c : Code} {A : Nat → Prop} {H : Heap} {locs : List Loc} {ls : Array Slot} {D : va_G} {cy : Nat → ClassId} {ad : Nat → Nat} (X : eb_X p s m args meth c cX10_branches 10 RX10 (Cond.code yX10_branches cX10_branches 10 (some .int) :: wsL_law) (some .int) D cy A)   (σ : eb_St) (v1 : Int64) (s0 : Int32) (hj_ : rJ σ) {mm : Int32 × eb_St} (hm : (m_X10_branches_80  σ v1 s0) = mm) (hw : eb_H D 18 cy rL ad A s.heap σ H locs) (hl : lv_has ls 10 [(0, .ref (ad 0)), (1, .long v1)]) : W p l e ({ frames := 2, cells := 0, slots := 0, locals := 43 } : Room) s m args below meth c H locs 0 0 (MQ below (eb_Q D 18 cy rL ad A (some (.int mm.1)) mm.2) args s 0 0 A) (F0 m 80 ls [.int s0]) := by
  have hx := X.1.1
  have hb := X.1.2.1
  have hown := X.1.2.2.2.1
  have hts := X.1.2.2.2.2
  have hm : m_X10_branches_171  σ v1 s0 = mm := hm
  refine lv_istore (lv' := [(7, .int s0), (0, .ref (ad 0)), (1, .long v1)]) hx hb dX10_branches_80 hl (by decide) rfl (fun ls hl => ?_)
  refine lv_goto (tgt := 171) hx hb dX10_branches_82 (by decide) ?_
  exact k_X10_branches_171 X   σ v1 s0 hj_ hm hw (lv_sub hl [1, 2, 0] rfl)
set_option maxHeartbeats 4000000 in
set_option maxRecDepth 100000 in
theorem k_X10_branches_97 {p : Program} {l : Launch} {e : Env} {s : State} {m : MethodId} {args : Array Value} {below : List Frame} {meth : Method} {c : Code} {A : Nat → Prop} {H : Heap} {locs : List Loc} {ls : Array Slot} {D : va_G} {cy : Nat → ClassId} {ad : Nat → Nat} (X : eb_X p s m args meth c cX10_branches 10 RX10 (Cond.code yX10_branches cX10_branches 10 (some .int) :: wsL_law) (some .int) D cy A)   (σ : eb_St) (v1 : Int64) (s0 : Int32) (hj_ : rJ σ) {mm : Int32 × eb_St} (hm : (m_X10_branches_97  σ v1 s0) = mm) (hw : eb_H D 18 cy rL ad A s.heap σ H locs) (hl : lv_has ls 10 [(0, .ref (ad 0)), (1, .long v1)]) : W p l e ({ frames := 2, cells := 0, slots := 0, locals := 43 } : Room) s m args below meth c H locs 0 0 (MQ below (eb_Q D 18 cy rL ad A (some (.int mm.1)) mm.2) args s 0 0 A) (F0 m 97 ls [.int s0]) := by
  have hx := X.1.1
  have hb := X.1.2.1
  have hown := X.1.2.2.2.1
  have hts := X.1.2.2.2.2
  have hm : m_X10_branches_171  σ v1 s0 = mm := hm
  refine lv_istore (lv' := [(7, .int s0), (0, .ref (ad 0)), (1, .long v1)]) hx hb dX10_branches_97 hl (by decide) rfl (fun ls hl => ?_)
  refine lv_goto (tgt := 171) hx hb dX10_branches_99 (by decide) ?_
  exact k_X10_branches_171 X   σ v1 s0 hj_ hm hw (lv_sub hl [1, 2, 0] rfl)
set_option maxHeartbeats 4000000 in
set_option maxRecDepth 100000 in
theorem k_X10_branches_114 {p : Program} {l : Launch} {e : Env} {s : State} {m : MethodId} {args : Array Value} {below : List Frame} {meth : Method} {c : Code} {A : Nat → Prop} {H : Heap} {locs : List Loc} {ls : Array Slot} {D : va_G} {cy : Nat → ClassId} {ad : Nat → Nat} (X : eb_X p s m args meth c cX10_branches 10 RX10 (Cond.code yX10_branches cX10_branches 10 (some .int) :: wsL_law) (some .int) D cy A)   (σ : eb_St) (v1 : Int64) (s0 : Int32) (hj_ : rJ σ) {mm : Int32 × eb_St} (hm : (m_X10_branches_114  σ v1 s0) = mm) (hw : eb_H D 18 cy rL ad A s.heap σ H locs) (hl : lv_has ls 10 [(0, .ref (ad 0)), (1, .long v1)]) : W p l e ({ frames := 2, cells := 0, slots := 0, locals := 43 } : Room) s m args below meth c H locs 0 0 (MQ below (eb_Q D 18 cy rL ad A (some (.int mm.1)) mm.2) args s 0 0 A) (F0 m 114 ls [.int s0]) := by
  have hx := X.1.1
  have hb := X.1.2.1
  have hown := X.1.2.2.2.1
  have hts := X.1.2.2.2.2
  have hm : m_X10_branches_171  σ v1 s0 = mm := hm
  refine lv_istore (lv' := [(7, .int s0), (0, .ref (ad 0)), (1, .long v1)]) hx hb dX10_branches_114 hl (by decide) rfl (fun ls hl => ?_)
  refine lv_goto (tgt := 171) hx hb dX10_branches_116 (by decide) ?_
  exact k_X10_branches_171 X   σ v1 s0 hj_ hm hw (lv_sub hl [1, 2, 0] rfl)
set_option maxHeartbeats 4000000 in
set_option maxRecDepth 100000 in
theorem k_X10_branches_131 {p : Program} {l : Launch} {e : Env} {s : State} {m : MethodId} {args : Array Value} {below : List Frame} {meth : Method} {c : Code} {A : Nat → Prop} {H : Heap} {locs : List Loc} {ls : Array Slot} {D : va_G} {cy : Nat → ClassId} {ad : Nat → Nat} (X : eb_X p s m args meth c cX10_branches 10 RX10 (Cond.code yX10_branches cX10_branches 10 (some .int) :: wsL_law) (some .int) D cy A)   (σ : eb_St) (v1 : Int64) (s0 : Int32) (hj_ : rJ σ) {mm : Int32 × eb_St} (hm : (m_X10_branches_131  σ v1 s0) = mm) (hw : eb_H D 18 cy rL ad A s.heap σ H locs) (hl : lv_has ls 10 [(0, .ref (ad 0)), (1, .long v1)]) : W p l e ({ frames := 2, cells := 0, slots := 0, locals := 43 } : Room) s m args below meth c H locs 0 0 (MQ below (eb_Q D 18 cy rL ad A (some (.int mm.1)) mm.2) args s 0 0 A) (F0 m 131 ls [.int s0]) := by
  have hx := X.1.1
  have hb := X.1.2.1
  have hown := X.1.2.2.2.1
  have hts := X.1.2.2.2.2
  have hm : m_X10_branches_171  σ v1 s0 = mm := hm
  refine lv_istore (lv' := [(7, .int s0), (0, .ref (ad 0)), (1, .long v1)]) hx hb dX10_branches_131 hl (by decide) rfl (fun ls hl => ?_)
  refine lv_goto (tgt := 171) hx hb dX10_branches_133 (by decide) ?_
  exact k_X10_branches_171 X   σ v1 s0 hj_ hm hw (lv_sub hl [1, 2, 0] rfl)
set_option maxHeartbeats 4000000 in
set_option maxRecDepth 100000 in
theorem k_X10_branches_161 {p : Program} {l : Launch} {e : Env} {s : State} {m : MethodId} {args : Array Value} {below : List Frame} {meth : Method} {c : Code} {A : Nat → Prop} {H : Heap} {locs : List Loc} {ls : Array Slot} {D : va_G} {cy : Nat → ClassId} {ad : Nat → Nat} (X : eb_X p s m args meth c cX10_branches 10 RX10 (Cond.code yX10_branches cX10_branches 10 (some .int) :: wsL_law) (some .int) D cy A)   (σ : eb_St) (v1 : Int64) (s0 : Int32) (hj_ : rJ σ) {mm : Int32 × eb_St} (hm : (m_X10_branches_161  σ v1 s0) = mm) (hw : eb_H D 18 cy rL ad A s.heap σ H locs) (hl : lv_has ls 10 [(0, .ref (ad 0)), (1, .long v1)]) : W p l e ({ frames := 2, cells := 0, slots := 0, locals := 43 } : Room) s m args below meth c H locs 0 0 (MQ below (eb_Q D 18 cy rL ad A (some (.int mm.1)) mm.2) args s 0 0 A) (F0 m 161 ls [.int s0]) := by
  have hx := X.1.1
  have hb := X.1.2.1
  have hown := X.1.2.2.2.1
  have hts := X.1.2.2.2.2
  have hm : m_X10_branches_171  σ v1 s0 = mm := hm
  refine lv_istore (lv' := [(7, .int s0), (0, .ref (ad 0)), (1, .long v1)]) hx hb dX10_branches_161 hl (by decide) rfl (fun ls hl => ?_)
  refine lv_goto (tgt := 171) hx hb dX10_branches_163 (by decide) ?_
  exact k_X10_branches_171 X   σ v1 s0 hj_ hm hw (lv_sub hl [1, 2, 0] rfl)
set_option maxHeartbeats 4000000 in
set_option maxRecDepth 100000 in
theorem c_X10_branches (l : Launch) (D : va_G) (cy : Nat → ClassId) (ad : Nat → Nat) (σ : eb_St) (a0 : Int64) (hj_ : rJ σ) : eb_M l yX10_branches (Cond.code yX10_branches cX10_branches 10 (some .int) :: wsL_law) 2 43 D 18 cy rL ad σ [.ref (ad 0), .long a0] (some (.int (m_X10_branches σ a0).1)) ((m_X10_branches σ a0).2) := by
  refine eb_start (own := RX10) (by decide) rfl rfl (Nat.le_of_ble_eq_true rfl) ?_
  intro p e s m args below meth c A ls X hw hl
  have hl : lv_has ls 10 [(0, .ref (ad 0)), (1, .long a0)] := hl
  have hx := X.1.1
  have hb := X.1.2.1
  have hown := X.1.2.2.2.1
  have hts := X.1.2.2.2.2
  generalize hm : m_X10_branches σ a0 = mm
  have hm : (fun (z1 : Int64) => (fun (z2 : Int64) => (if (σ.1 0 41) = 0 then (if z1 = z2 then m_X10_branches_80  σ a0 1 else m_X10_branches_80  σ a0 0) else if (σ.1 0 41) = 1 then (if z1 = z2 then m_X10_branches_97  σ a0 0 else m_X10_branches_97  σ a0 1) else if (σ.1 0 41) = 2 then (fun (z8 : Int32 × eb_St) => (z8.1, z8.2)) (m_X10_illegal σ) else if (σ.1 0 41) = 3 then (fun (z10 : Int32 × eb_St) => (z10.1, z10.2)) (m_X10_illegal σ) else if (σ.1 0 41) = 4 then (if z2 ≤ z1 then m_X10_branches_114  σ a0 0 else m_X10_branches_114  σ a0 1) else if (σ.1 0 41) = 5 then (if z1 < z2 then m_X10_branches_131  σ a0 0 else m_X10_branches_131  σ a0 1) else if (σ.1 0 41) = 6 then (fun (z16 : Bool) => (fun (x17 : Int32) => m_X10_branches_171  σ a0 x17) (eb_b z16)) (m_X10_isBelow z1 z2) else if (σ.1 0 41) = 7 then (fun (z19 : Bool) => (if (eb_b z19) = 0 then m_X10_branches_161  σ a0 1 else m_X10_branches_161  σ a0 0)) (m_X10_isBelow z1 z2) else (fun (z21 : Int32 × eb_St) => (z21.1, z21.2)) (m_X10_illegal σ))) (m_X10_x σ (σ.1 0 40))) (m_X10_x σ (σ.1 0 39)) = mm := hm
  refine lv_aload_n hx hb dX10_branches_0 rfl (lv_at hl 0 rfl) ?_
  refine lv_aload_n hx hb dX10_branches_1 rfl (lv_at hl 0 rfl) ?_
  refine eb_get (T := TX10) X hw 0 39 (by decide) ⟨rfl, rfl, rfl⟩ (by decide) (fun _ h => List.mem_cons_of_mem _ (inlX10 _ h)) (List.mem_cons_of_mem _ wi_30_11) (v := .int (σ.1 0 39)) rfl dX10_branches_2 ?_
  obtain ⟨z1, qz1⟩ : ∃ t : Int64, t = m_X10_x σ (σ.1 0 39) := ⟨_, rfl⟩
  have hm : (fun (z2 : Int64) => (if (σ.1 0 41) = 0 then (if z1 = z2 then m_X10_branches_80  σ a0 1 else m_X10_branches_80  σ a0 0) else if (σ.1 0 41) = 1 then (if z1 = z2 then m_X10_branches_97  σ a0 0 else m_X10_branches_97  σ a0 1) else if (σ.1 0 41) = 2 then (fun (z8 : Int32 × eb_St) => (z8.1, z8.2)) (m_X10_illegal σ) else if (σ.1 0 41) = 3 then (fun (z10 : Int32 × eb_St) => (z10.1, z10.2)) (m_X10_illegal σ) else if (σ.1 0 41) = 4 then (if z2 ≤ z1 then m_X10_branches_114  σ a0 0 else m_X10_branches_114  σ a0 1) else if (σ.1 0 41) = 5 then (if z1 < z2 then m_X10_branches_131  σ a0 0 else m_X10_branches_131  σ a0 1) else if (σ.1 0 41) = 6 then (fun (z16 : Bool) => (fun (x17 : Int32) => m_X10_branches_171  σ a0 x17) (eb_b z16)) (m_X10_isBelow z1 z2) else if (σ.1 0 41) = 7 then (fun (z19 : Bool) => (if (eb_b z19) = 0 then m_X10_branches_161  σ a0 1 else m_X10_branches_161  σ a0 0)) (m_X10_isBelow z1 z2) else (fun (z21 : Int32 × eb_St) => (z21.1, z21.2)) (m_X10_illegal σ))) (m_X10_x σ (σ.1 0 40)) = mm := by rw [qz1]; exact hm
  have hc : eb_M l yX10_x (Cond.code yX10_x cX10_x 2 (some .long) :: wsL_law) 1 20 D 18 cy rL ad σ [.ref (ad 0), .int (σ.1 0 39)] (some (.long z1)) σ := by rw [qz1]; exact c_X10_x l D cy ad σ (σ.1 0 39) hj_ hj_.2.2.2.1
  refine eb_callV (n := 1) (as := [.int (σ.1 0 39)]) (rest := []) X hw hl.1 0 hc (by decide) ⟨rfl, rfl, rfl⟩ (eb_goodV wi_33_4 wi_33_5 wi_33_6 wi_1_5 wi_33_7) rfl (by decide +kernel) ⟨by decide, by decide⟩ rfl rfl (Nat.le_of_ble_eq_true rfl) dX10_branches_5 ⟨by decide, by decide⟩ (st' := [.long z1]) rfl (fun H locs hw => ?_)
  refine lv_lstore_n (lv' := [(3, .long z1), (0, .ref (ad 0)), (1, .long a0)]) hx hb dX10_branches_8 rfl hl (by decide) rfl (fun ls hl => ?_)
  refine lv_aload_n hx hb dX10_branches_9 rfl (lv_at hl 1 rfl) ?_
  refine lv_aload_n hx hb dX10_branches_10 rfl (lv_at hl 1 rfl) ?_
  refine eb_get (T := TX10) X hw 0 40 (by decide) ⟨rfl, rfl, rfl⟩ (by decide) (fun _ h => List.mem_cons_of_mem _ (inlX10 _ h)) (List.mem_cons_of_mem _ wi_30_12) (v := .int (σ.1 0 40)) rfl dX10_branches_11 ?_
  obtain ⟨z2, qz2⟩ : ∃ t : Int64, t = m_X10_x σ (σ.1 0 40) := ⟨_, rfl⟩
  have hm : (if (σ.1 0 41) = 0 then (if z1 = z2 then m_X10_branches_80  σ a0 1 else m_X10_branches_80  σ a0 0) else if (σ.1 0 41) = 1 then (if z1 = z2 then m_X10_branches_97  σ a0 0 else m_X10_branches_97  σ a0 1) else if (σ.1 0 41) = 2 then (fun (z8 : Int32 × eb_St) => (z8.1, z8.2)) (m_X10_illegal σ) else if (σ.1 0 41) = 3 then (fun (z10 : Int32 × eb_St) => (z10.1, z10.2)) (m_X10_illegal σ) else if (σ.1 0 41) = 4 then (if z2 ≤ z1 then m_X10_branches_114  σ a0 0 else m_X10_branches_114  σ a0 1) else if (σ.1 0 41) = 5 then (if z1 < z2 then m_X10_branches_131  σ a0 0 else m_X10_branches_131  σ a0 1) else if (σ.1 0 41) = 6 then (fun (z16 : Bool) => (fun (x17 : Int32) => m_X10_branches_171  σ a0 x17) (eb_b z16)) (m_X10_isBelow z1 z2) else if (σ.1 0 41) = 7 then (fun (z19 : Bool) => (if (eb_b z19) = 0 then m_X10_branches_161  σ a0 1 else m_X10_branches_161  σ a0 0)) (m_X10_isBelow z1 z2) else (fun (z21 : Int32 × eb_St) => (z21.1, z21.2)) (m_X10_illegal σ)) = mm := by rw [qz2]; exact hm
  have hc : eb_M l yX10_x (Cond.code yX10_x cX10_x 2 (some .long) :: wsL_law) 1 20 D 18 cy rL ad σ [.ref (ad 0), .int (σ.1 0 40)] (some (.long z2)) σ := by rw [qz2]; exact c_X10_x l D cy ad σ (σ.1 0 40) hj_ hj_.2.2.2.2.1
  refine eb_callV (n := 1) (as := [.int (σ.1 0 40)]) (rest := []) X hw hl.1 0 hc (by decide) ⟨rfl, rfl, rfl⟩ (eb_goodV wi_33_4 wi_33_5 wi_33_6 wi_1_5 wi_33_7) rfl (by decide +kernel) ⟨by decide, by decide⟩ rfl rfl (Nat.le_of_ble_eq_true rfl) dX10_branches_14 ⟨by decide, by decide⟩ (st' := [.long z2]) rfl (fun H locs hw => ?_)
  refine lv_lstore (lv' := [(5, .long z2), (3, .long z1), (0, .ref (ad 0)), (1, .long a0)]) hx hb dX10_branches_17 hl (by decide) rfl (fun ls hl => ?_)
  refine lv_aload_n hx hb dX10_branches_19 rfl (lv_at hl 2 rfl) ?_
  refine eb_get (T := TX10) X hw 0 41 (by decide) ⟨rfl, rfl, rfl⟩ (by decide) (fun _ h => List.mem_cons_of_mem _ (inlX10 _ h)) (List.mem_cons_of_mem _ wi_30_10) (v := .int (σ.1 0 41)) rfl dX10_branches_20 ?_
  by_cases h3 : (σ.1 0 41) = 0
  · have hm := (if_pos h3).symm.trans hm
    refine lv_tableIn (off := 45) (tgt := 68) hx hb dX10_branches_23 (by rw [h3]; decide) (by rw [h3]; decide) (by rw [h3]; rfl) (by decide) ?_
    refine lv_lload_n hx hb dX10_branches_68 rfl (lv_at hl 1 rfl) ?_
    refine lv_lload hx hb dX10_branches_69 (lv_at hl 0 rfl) ?_
    refine eb_lif_ne (tgt := 79) hx hb dX10_branches_71 dX10_branches_72 (by decide) (fun h4 => ?_) (fun h4 => ?_)
    · have hm := (if_neg h4).symm.trans hm
      refine lv_iconst (v := 0) hx hb dX10_branches_79 (by decide) ?_
      exact k_X10_branches_80 X   σ a0 0 hj_ hm hw (lv_sub hl [2, 3] rfl)
    · have hm := (if_pos h4).symm.trans hm
      refine lv_iconst (v := 1) hx hb dX10_branches_75 (by decide) ?_
      refine lv_goto (tgt := 80) hx hb dX10_branches_76 (by decide) ?_
      exact k_X10_branches_80 X   σ a0 1 hj_ hm hw (lv_sub hl [2, 3] rfl)
  · have hm := (if_neg h3).symm.trans hm
    by_cases h5 : (σ.1 0 41) = 1
    · have hm := (if_pos h5).symm.trans hm
      refine lv_tableIn (off := 62) (tgt := 85) hx hb dX10_branches_23 (by rw [h5]; decide) (by rw [h5]; decide) (by rw [h5]; rfl) (by decide) ?_
      refine lv_lload_n hx hb dX10_branches_85 rfl (lv_at hl 1 rfl) ?_
      refine lv_lload hx hb dX10_branches_86 (lv_at hl 0 rfl) ?_
      refine eb_lif_eq (tgt := 96) hx hb dX10_branches_88 dX10_branches_89 (by decide) (fun h6 => ?_) (fun h6 => ?_)
      · have hm := (if_pos h6).symm.trans hm
        refine lv_iconst (v := 0) hx hb dX10_branches_96 (by decide) ?_
        exact k_X10_branches_97 X   σ a0 0 hj_ hm hw (lv_sub hl [2, 3] rfl)
      · have hm := (if_neg h6).symm.trans hm
        refine lv_iconst (v := 1) hx hb dX10_branches_92 (by decide) ?_
        refine lv_goto (tgt := 97) hx hb dX10_branches_93 (by decide) ?_
        exact k_X10_branches_97 X   σ a0 1 hj_ hm hw (lv_sub hl [2, 3] rfl)
    · have hm := (if_neg h5).symm.trans hm
      by_cases h7 : (σ.1 0 41) = 2
      · have hm := (if_pos h7).symm.trans hm
        refine lv_tableIn (off := 143) (tgt := 166) hx hb dX10_branches_23 (by rw [h7]; decide) (by rw [h7]; decide) (by rw [h7]; rfl) (by decide) ?_
        refine lv_aload_n hx hb dX10_branches_166 rfl (lv_at hl 2 rfl) ?_
        obtain ⟨z8, qz8⟩ : ∃ t : Int32 × eb_St, t = m_X10_illegal σ := ⟨_, rfl⟩
        have hm : (z8.1, z8.2) = mm := by rw [qz8]; exact hm
        have jz8 : rJ z8.2 := J_X10_illegal qz8.symm hj_
        have hc : eb_M l yX10_illegal (Cond.code yX10_illegal cX10_illegal 1 (some .int) :: wsL_law) 1 23 D 18 cy rL ad σ [.ref (ad 0)] (some (.int z8.1)) z8.2 := by rw [qz8]; exact c_X10_illegal l D cy ad σ hj_
        refine eb_callV (n := 0) (as := []) (rest := []) X hw hl.1 0 hc (by decide) ⟨rfl, rfl, rfl⟩ (eb_goodV wi_32_23 wi_33_0 wi_33_1 wi_1_5 wi_33_2) rfl (by decide +kernel) ⟨by decide, by decide⟩ rfl rfl (Nat.le_of_ble_eq_true rfl) dX10_branches_167 ⟨by decide, by decide⟩ (st' := [.int z8.1]) rfl (fun H locs hw => ?_)
        subst hm
        exact eb_iret X hw rfl rfl rfl dX10_branches_170
      · have hm := (if_neg h7).symm.trans hm
        by_cases h9 : (σ.1 0 41) = 3
        · have hm := (if_pos h9).symm.trans hm
          refine lv_tableIn (off := 143) (tgt := 166) hx hb dX10_branches_23 (by rw [h9]; decide) (by rw [h9]; decide) (by rw [h9]; rfl) (by decide) ?_
          refine lv_aload_n hx hb dX10_branches_166 rfl (lv_at hl 2 rfl) ?_
          obtain ⟨z10, qz10⟩ : ∃ t : Int32 × eb_St, t = m_X10_illegal σ := ⟨_, rfl⟩
          have hm : (z10.1, z10.2) = mm := by rw [qz10]; exact hm
          have jz10 : rJ z10.2 := J_X10_illegal qz10.symm hj_
          have hc : eb_M l yX10_illegal (Cond.code yX10_illegal cX10_illegal 1 (some .int) :: wsL_law) 1 23 D 18 cy rL ad σ [.ref (ad 0)] (some (.int z10.1)) z10.2 := by rw [qz10]; exact c_X10_illegal l D cy ad σ hj_
          refine eb_callV (n := 0) (as := []) (rest := []) X hw hl.1 0 hc (by decide) ⟨rfl, rfl, rfl⟩ (eb_goodV wi_32_23 wi_33_0 wi_33_1 wi_1_5 wi_33_2) rfl (by decide +kernel) ⟨by decide, by decide⟩ rfl rfl (Nat.le_of_ble_eq_true rfl) dX10_branches_167 ⟨by decide, by decide⟩ (st' := [.int z10.1]) rfl (fun H locs hw => ?_)
          subst hm
          exact eb_iret X hw rfl rfl rfl dX10_branches_170
        · have hm := (if_neg h9).symm.trans hm
          by_cases h11 : (σ.1 0 41) = 4
          · have hm := (if_pos h11).symm.trans hm
            refine lv_tableIn (off := 79) (tgt := 102) hx hb dX10_branches_23 (by rw [h11]; decide) (by rw [h11]; decide) (by rw [h11]; rfl) (by decide) ?_
            refine lv_lload_n hx hb dX10_branches_102 rfl (lv_at hl 1 rfl) ?_
            refine lv_lload hx hb dX10_branches_103 (lv_at hl 0 rfl) ?_
            refine eb_lif_ge (tgt := 113) hx hb dX10_branches_105 dX10_branches_106 (by decide) (fun h12 => ?_) (fun h12 => ?_)
            · have hm := (if_pos h12).symm.trans hm
              refine lv_iconst (v := 0) hx hb dX10_branches_113 (by decide) ?_
              exact k_X10_branches_114 X   σ a0 0 hj_ hm hw (lv_sub hl [2, 3] rfl)
            · have hm := (if_neg h12).symm.trans hm
              refine lv_iconst (v := 1) hx hb dX10_branches_109 (by decide) ?_
              refine lv_goto (tgt := 114) hx hb dX10_branches_110 (by decide) ?_
              exact k_X10_branches_114 X   σ a0 1 hj_ hm hw (lv_sub hl [2, 3] rfl)
          · have hm := (if_neg h11).symm.trans hm
            by_cases h13 : (σ.1 0 41) = 5
            · have hm := (if_pos h13).symm.trans hm
              refine lv_tableIn (off := 96) (tgt := 119) hx hb dX10_branches_23 (by rw [h13]; decide) (by rw [h13]; decide) (by rw [h13]; rfl) (by decide) ?_
              refine lv_lload_n hx hb dX10_branches_119 rfl (lv_at hl 1 rfl) ?_
              refine lv_lload hx hb dX10_branches_120 (lv_at hl 0 rfl) ?_
              refine eb_lif_lt (tgt := 130) hx hb dX10_branches_122 dX10_branches_123 (by decide) (fun h14 => ?_) (fun h14 => ?_)
              · have hm := (if_pos h14).symm.trans hm
                refine lv_iconst (v := 0) hx hb dX10_branches_130 (by decide) ?_
                exact k_X10_branches_131 X   σ a0 0 hj_ hm hw (lv_sub hl [2, 3] rfl)
              · have hm := (if_neg h14).symm.trans hm
                refine lv_iconst (v := 1) hx hb dX10_branches_126 (by decide) ?_
                refine lv_goto (tgt := 131) hx hb dX10_branches_127 (by decide) ?_
                exact k_X10_branches_131 X   σ a0 1 hj_ hm hw (lv_sub hl [2, 3] rfl)
            · have hm := (if_neg h13).symm.trans hm
              by_cases h15 : (σ.1 0 41) = 6
              · have hm := (if_pos h15).symm.trans hm
                refine lv_tableIn (off := 113) (tgt := 136) hx hb dX10_branches_23 (by rw [h15]; decide) (by rw [h15]; decide) (by rw [h15]; rfl) (by decide) ?_
                refine lv_lload_n hx hb dX10_branches_136 rfl (lv_at hl 1 rfl) ?_
                refine lv_lload hx hb dX10_branches_137 (lv_at hl 0 rfl) ?_
                obtain ⟨z16, qz16⟩ : ∃ t : Bool, t = m_X10_isBelow z1 z2 := ⟨_, rfl⟩
                have hm : (fun (x17 : Int32) => m_X10_branches_171  σ a0 x17) (eb_b z16) = mm := by rw [qz16]; exact hm
                have hc : eb_M l yX10_isBelow (Cond.code yX10_isBelow cX10_isBelow 4 (some .boolean) :: wsL_law) 0 0 D 18 cy rL ad σ [.long z1, .long z2] (some (.int (eb_b z16))) σ := by rw [qz16]; exact c_X10_isBelow l D cy ad σ z1 z2
                refine eb_callS (n := 2) X hw hl.1 (rest := []) hc (eb_goodS wi_33_12 wi_33_13 wi_1_5 wi_33_14) rfl (by decide +kernel) ⟨by decide, by decide⟩ rfl rfl (Nat.le_of_ble_eq_true rfl) dX10_branches_139 ⟨by decide, by decide⟩ (st' := [.int (eb_b z16)]) rfl (fun H locs hw => ?_)
                refine lv_topi (fun x17 ex17 => ?_)
                have hm : m_X10_branches_171  σ a0 x17 = mm := by rw [ex17]; exact hm
                refine lv_istore (lv' := [(7, .int x17), (5, .long z2), (3, .long z1), (0, .ref (ad 0)), (1, .long a0)]) hx hb dX10_branches_142 hl (by decide) rfl (fun ls hl => ?_)
                refine lv_goto (tgt := 171) hx hb dX10_branches_144 (by decide) ?_
                exact k_X10_branches_171 X   σ a0 x17 hj_ hm hw (lv_sub hl [3, 4, 0] rfl)
              · have hm := (if_neg h15).symm.trans hm
                by_cases h18 : (σ.1 0 41) = 7
                · have hm := (if_pos h18).symm.trans hm
                  refine lv_tableIn (off := 124) (tgt := 147) hx hb dX10_branches_23 (by rw [h18]; decide) (by rw [h18]; decide) (by rw [h18]; rfl) (by decide) ?_
                  refine lv_lload_n hx hb dX10_branches_147 rfl (lv_at hl 1 rfl) ?_
                  refine lv_lload hx hb dX10_branches_148 (lv_at hl 0 rfl) ?_
                  obtain ⟨z19, qz19⟩ : ∃ t : Bool, t = m_X10_isBelow z1 z2 := ⟨_, rfl⟩
                  have hm : (if (eb_b z19) = 0 then m_X10_branches_161  σ a0 1 else m_X10_branches_161  σ a0 0) = mm := by rw [qz19]; exact hm
                  have hc : eb_M l yX10_isBelow (Cond.code yX10_isBelow cX10_isBelow 4 (some .boolean) :: wsL_law) 0 0 D 18 cy rL ad σ [.long z1, .long z2] (some (.int (eb_b z19))) σ := by rw [qz19]; exact c_X10_isBelow l D cy ad σ z1 z2
                  refine eb_callS (n := 2) X hw hl.1 (rest := []) hc (eb_goodS wi_33_12 wi_33_13 wi_1_5 wi_33_14) rfl (by decide +kernel) ⟨by decide, by decide⟩ rfl rfl (Nat.le_of_ble_eq_true rfl) dX10_branches_150 ⟨by decide, by decide⟩ (st' := [.int (eb_b z19)]) rfl (fun H locs hw => ?_)
                  refine lv_if_ne (tgt := 160) hx hb dX10_branches_153 (by decide) (fun h20 => ?_) (fun h20 => ?_)
                  · have hm := (if_neg h20).symm.trans hm
                    refine lv_iconst (v := 0) hx hb dX10_branches_160 (by decide) ?_
                    exact k_X10_branches_161 X   σ a0 0 hj_ hm hw (lv_sub hl [2, 3] rfl)
                  · have hm := (if_pos h20).symm.trans hm
                    refine lv_iconst (v := 1) hx hb dX10_branches_156 (by decide) ?_
                    refine lv_goto (tgt := 161) hx hb dX10_branches_157 (by decide) ?_
                    exact k_X10_branches_161 X   σ a0 1 hj_ hm hw (lv_sub hl [2, 3] rfl)
                · have hm := (if_neg h18).symm.trans hm
                  refine lv_tableOut (tgt := 166) hx hb dX10_branches_23 (by have qh3 := lv_neT h3 (a := 0) (by decide); have qh5 := lv_neT h5 (a := 1) (by decide); have qh7 := lv_neT h7 (a := 2) (by decide); have qh9 := lv_neT h9 (a := 3) (by decide); have qh11 := lv_neT h11 (a := 4) (by decide); have qh13 := lv_neT h13 (a := 5) (by decide); have qh15 := lv_neT h15 (a := 6) (by decide); have qh18 := lv_neT h18 (a := 7) (by decide); omega) (by decide) ?_
                  refine lv_aload_n hx hb dX10_branches_166 rfl (lv_at hl 2 rfl) ?_
                  obtain ⟨z21, qz21⟩ : ∃ t : Int32 × eb_St, t = m_X10_illegal σ := ⟨_, rfl⟩
                  have hm : (z21.1, z21.2) = mm := by rw [qz21]; exact hm
                  have jz21 : rJ z21.2 := J_X10_illegal qz21.symm hj_
                  have hc : eb_M l yX10_illegal (Cond.code yX10_illegal cX10_illegal 1 (some .int) :: wsL_law) 1 23 D 18 cy rL ad σ [.ref (ad 0)] (some (.int z21.1)) z21.2 := by rw [qz21]; exact c_X10_illegal l D cy ad σ hj_
                  refine eb_callV (n := 0) (as := []) (rest := []) X hw hl.1 0 hc (by decide) ⟨rfl, rfl, rfl⟩ (eb_goodV wi_32_23 wi_33_0 wi_33_1 wi_1_5 wi_33_2) rfl (by decide +kernel) ⟨by decide, by decide⟩ rfl rfl (Nat.le_of_ble_eq_true rfl) dX10_branches_167 ⟨by decide, by decide⟩ (st' := [.int z21.1]) rfl (fun H locs hw => ?_)
                  subst hm
                  exact eb_iret X hw rfl rfl rfl dX10_branches_170
