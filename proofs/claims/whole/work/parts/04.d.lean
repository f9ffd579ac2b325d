def m_X10_lets_122  (σ : eb_St) (v3 : Int32) (v6 : Int32) : Bool × eb_St := (if (v6 &&& v3) = v3 then (true, σ) else (false, σ))
def m_X10_lets_14  : Nat → eb_St → Int32 → Int32 → Int32 → Int32 → Int32 → Bool × eb_St
  | 0, σ, _, _, _, _, _ => (false, σ)
  | n + 1, σ, v1, v2, v3, v4, v5 => (if (16 : Int32) ≤ v5 then (decide (¬ v4 = 0), σ) else (if (σ.2 16 v5.toNatClampNeg) ≤ (σ.2 15 v5.toNatClampNeg) then (fun (x5 : Int32) => m_X10_lets_14  n σ v1 v2 v3 v4 x5) (v5 + 1) else (if ((v1 + v2).toInt64) ≤ (σ.2 15 v5.toNatClampNeg) then (fun (x7 : Int32) => m_X10_lets_14  n σ v1 v2 v3 v4 x7) (v5 + 1) else (if v1.toInt64 < (σ.2 16 v5.toNatClampNeg) then (if v1.toInt64 < (σ.2 15 v5.toNatClampNeg) then (false, σ) else (if ((v1 + v2).toInt64) ≤ (σ.2 16 v5.toNatClampNeg) then (fun (z11 : Int32) => (if v4 = 0 then m_X10_lets_122  σ v3 z11 else (if (z11 &&& 128) = 0 then (true, σ) else m_X10_lets_122  σ v3 z11))) (m_X10_byteOf σ v5) else (false, σ))) else (fun (x14 : Int32) => m_X10_lets_14  n σ v1 v2 v3 v4 x14) (v5 + 1)))))
def m_X10_lets_11  (σ : eb_St) (v1 : Int32) (v2 : Int32) (v3 : Int32) (v4 : Int32) : Bool × eb_St := m_X10_lets_14  17 σ v1 v2 v3 v4 0
def m_X10_lets (σ : eb_St) (a0 : Int32) (a1 : Int32) (a2 : Int32) (a3 : Int32) : Bool × eb_St := (if (σ.1 0 35) = 0 then (fun (z2 : eb_St) => m_X10_lets_11  z2 a0 a1 a2 a3) (m_X10_spans σ) else m_X10_lets_11  σ a0 a1 a2 a3)

def m_X10_loads (σ : eb_St)  : Int32 × eb_St := (if (σ.1 0 41) = 7 then (fun (z18 : Int32 × eb_St) => (z18.1, z18.2)) (m_X10_illegal σ) else (fun (z2 : Int64) => (fun (x3 : Int64) => (fun (x4 : Int32) => (if (x3 &&& ((x4 - 1).toInt64)) = 0 then (fun (z6 : Bool) => (if (eb_b z6) = 0 then (fun (z8 : Int32 × eb_St) => (z8.1, z8.2)) (m_X10_fault σ 5 x3) else (fun (z9 : Bool × eb_St) => (if (eb_b z9.1) = 0 then (fun (z16 : Int32 × eb_St) => (z16.1, z16.2)) (m_X10_fault z9.2 5 x3) else (fun (z11 : Int64) => (fun (x12 : Int32) => (if (z9.2.1 0 41) ≤ 3 then (fun (z14 : Int32 × eb_St) => (z14.1, z14.2)) (m_X10_sets z9.2 (eb_lshr (eb_lshl z11 x12) x12)) else (fun (z15 : Int32 × eb_St) => (z15.1, z15.2)) (m_X10_sets z9.2 z11))) (64 - (8 * x4))) (m_X10_take z9.2 x3.toInt32 x4))) (m_X10_lets σ x3.toInt32 x4 1 (σ.1 0 4)))) (m_X10_isMemory x3 x4) else (fun (z17 : Int32 × eb_St) => (z17.1, z17.2)) (m_X10_fault σ 4 x3))) (1 <<< (((σ.1 0 41) &&& 3) &&& 31))) (z2 + (((σ.1 0 37) >>> (20 &&& 31)).toInt64))) (m_X10_x σ (σ.1 0 39)))

def m_X10_stores (σ : eb_St)  : Int32 × eb_St := (if (σ.1 0 41) ≤ 3 then (fun (z2 : Int64) => (fun (x3 : Int64) => (fun (x4 : Int32) => (if (x3 &&& ((x4 - 1).toInt64)) = 0 then (fun (z6 : Bool) => (if (eb_b z6) = 0 then (fun (z8 : Int32 × eb_St) => (z8.1, z8.2)) (m_X10_fault σ 7 x3) else (fun (z9 : Bool × eb_St) => (if (eb_b z9.1) = 0 then (fun (z14 : Int32 × eb_St) => (z14.1, z14.2)) (m_X10_fault z9.2 7 x3) else (fun (z11 : Int64) => (fun (z12 : eb_St) => (fun (z13 : Int32 × eb_St) => (z13.1, z13.2)) (m_X10_goesOn z12)) (m_X10_put z9.2 x3.toInt32 x4 z11)) (m_X10_x z9.2 (z9.2.1 0 40)))) (m_X10_lets σ x3.toInt32 x4 2 (σ.1 0 4)))) (m_X10_isMemory x3 x4) else (fun (z15 : Int32 × eb_St) => (z15.1, z15.2)) (m_X10_fault σ 6 x3))) (1 <<< ((σ.1 0 41) &&& 31))) (z2 + (((((σ.1 0 37) >>> (25 &&& 31)) <<< (5 &&& 31)) ||| (σ.1 0 38)).toInt64))) (m_X10_x σ (σ.1 0 39)) else (fun (z16 : Int32 × eb_St) => (z16.1, z16.2)) (m_X10_illegal σ))

def m_X10_mayAll_6  : Nat → eb_St → Int64 → Int64 → Int32 → Bool → Int64 → Bool × eb_St
  | 0, σ, _, _, _, _, _ => (false, σ)
  | n + 1, σ, v1, v3, v5, v6, v7 => (if v3 ≤ v7 then (v6, σ) else (if (eb_b v6) = 0 then (v6, σ) else (fun (z3 : Bool × eb_St) => (fun (x4 : Int64) => m_X10_mayAll_6  n z3.2 v1 v3 v5 z3.1 x4) (v7 + 1)) (m_X10_lets σ ((v1 + v7).toInt32) 1 v5 0)))
def m_X10_mayAll (σ : eb_St) (a0 : Int64) (a1 : Int64) (a2 : Int32) : Bool × eb_St := m_X10_mayAll_6  ((a1.toInt - (0 : Int64).toInt).toNat + 1) σ a0 a1 a2 true 0

def m_X10_has (σ : eb_St) (a0 : Int32) : Int64 := (if a0 = 768 then eb_lshl (σ.2 0 15) 11 else if a0 = 832 then σ.2 0 16 else if a0 = 833 then σ.2 0 17 else if a0 = 834 then σ.2 0 18 else if a0 = 835 then σ.2 0 19 else if a0 = 928 then (fun (z7 : Int64) => z7) (m_X10_bytes σ 0) else if a0 = 930 then (fun (z9 : Int64) => z9) (m_X10_bytes σ 8) else if a0 = 2818 then (σ.1 0 9).toInt64 else if a0 = 3860 then 0 else (fun (z12 : Int64) => z12) (m_X10_addressOf σ (a0 - 944)))

def m_X10_write_143  : Nat → eb_St → Int64 → Int32 → eb_St
  | 0, σ, _, _ => σ
  | n + 1, σ, v2, v4 => (if (8 : Int32) ≤ v4 then σ else (fun (x18 : Int32) => (fun (z19 : Bool) => (if (eb_b z19) = 0 then (if (x18 &&& 1) = 0 then (fun (x24 : Int32) => m_X10_write_143  n (eb_pI σ 4 ((8 + v4).toNatClampNeg) (x18 &&& (-3))) v2 x24) (v4 + 1) else (fun (x23 : Int32) => m_X10_write_143  n (eb_pI σ 4 ((8 + v4).toNatClampNeg) x18) v2 x23) (v4 + 1)) else (fun (x21 : Int32) => m_X10_write_143  n σ v2 x21) (v4 + 1))) (m_X10_isLocked σ (8 + v4))) (((eb_lshr v2 (8 * v4)).toInt32) &&& 159))
def m_X10_write (σ : eb_St) (a0 : Int32) (a1 : Int64) : eb_St := (if a0 = 768 then (if ((eb_lshr a1 11) &&& 3) = 3 then eb_pJ (eb_pI σ 0 35 0) 0 15 3 else eb_pJ (eb_pI σ 0 35 0) 0 15 0) else if a0 = 832 then eb_pJ (eb_pI σ 0 35 0) 0 16 a1 else if a0 = 833 then eb_pJ (eb_pI σ 0 35 0) 0 17 (a1 &&& (-4)) else if a0 = 834 then eb_pJ (eb_pI σ 0 35 0) 0 18 a1 else if a0 = 835 then eb_pJ (eb_pI σ 0 35 0) 0 19 a1 else if a0 = 928 then eb_pI σ 0 35 0 else if a0 = 930 then m_X10_write_143  9 (eb_pI σ 0 35 0) a1 0 else (fun (x9 : Int32) => (if x9 < 8 then eb_pI σ 0 35 0 else (fun (z11 : Bool) => (if (eb_b z11) = 0 then (if (15 : Int32) ≤ x9 then eb_pJ (eb_pI σ 0 35 0) 5 x9.toNatClampNeg (a1 &&& 18014398509481983) else (fun (z14 : Bool) => (if (eb_b z14) = 0 then eb_pJ (eb_pI σ 0 35 0) 5 x9.toNatClampNeg (a1 &&& 18014398509481983) else (if ((((eb_pI σ 0 35 0).1 4 (x9 + 1).toNatClampNeg) >>> (3 &&& 31)) &&& 3) = 1 then eb_pI σ 0 35 0 else eb_pJ (eb_pI σ 0 35 0) 5 x9.toNatClampNeg (a1 &&& 18014398509481983)))) (m_X10_isLocked (eb_pI σ 0 35 0) (x9 + 1))) else eb_pI σ 0 35 0)) (m_X10_isLocked (eb_pI σ 0 35 0) x9))) (a0 - 944))

def m_X10_csr_88  (σ : eb_St) (v1 : Int32) (v2 : Int64) (v4 : Int32) : Int32 × eb_St := (fun (z14 : Int64) => (if v4 = 0 then (fun (z16 : Int32 × eb_St) => (z16.1, z16.2)) (m_X10_sets σ z14) else (if ((σ.1 0 41) &&& 3) = 1 then (fun (z23 : eb_St) => (fun (z24 : Int32 × eb_St) => (z24.1, z24.2)) (m_X10_sets z23 z14)) (m_X10_write σ v1 v2) else (if ((σ.1 0 41) &&& 3) = 2 then (fun (z21 : eb_St) => (fun (z22 : Int32 × eb_St) => (z22.1, z22.2)) (m_X10_sets z21 z14)) (m_X10_write σ v1 (z14 ||| v2)) else (fun (z19 : eb_St) => (fun (z20 : Int32 × eb_St) => (z20.1, z20.2)) (m_X10_sets z19 z14)) (m_X10_write σ v1 (z14 &&& (v2 ^^^ (-1)))))))) (m_X10_has σ v1)
def m_X10_csr_55  (σ : eb_St) (v1 : Int32) (v2 : Int64) (s0 : Int32) : Int32 × eb_St := (fun (z6 : Bool) => (if (eb_b z6) = 0 then (fun (z8 : Int32 × eb_St) => (z8.1, z8.2)) (m_X10_illegal σ) else (if s0 = 0 then m_X10_csr_88  σ v1 v2 s0 else (if v1 = 2818 then (fun (z11 : Int32 × eb_St) => (z11.1, z11.2)) (m_X10_illegal σ) else (if v1 = 3860 then (fun (z13 : Int32 × eb_St) => (z13.1, z13.2)) (m_X10_illegal σ) else m_X10_csr_88  σ v1 v2 s0))))) (m_X10_isCsr v1)
def m_X10_csr_50  (σ : eb_St) (v1 : Int32) (v2 : Int64) : Int32 × eb_St := m_X10_csr_55  σ v1 v2 1
def m_X10_csr_32  (σ : eb_St) (v1 : Int32) (s0 : Int64) : Int32 × eb_St := (if ((σ.1 0 41) &&& 3) = 1 then m_X10_csr_50  σ v1 s0 else (if (σ.1 0 39) = 0 then m_X10_csr_55  σ v1 s0 0 else m_X10_csr_50  σ v1 s0))
def m_X10_csr (σ : eb_St)  : Int32 × eb_St := (fun (x1 : Int32) => (if (σ.1 0 41) ≤ 4 then (fun (z3 : Int64) => m_X10_csr_32  σ x1 z3) (m_X10_x σ (σ.1 0 39)) else m_X10_csr_32  σ x1 ((σ.1 0 39).toInt64))) (eb_iushr (σ.1 0 37) 20)

def m_X10_enclaveCalls (σ : eb_St)  : eb_St := (fun (x1 : Int32) => (fun (z2 : Int64) => (if z2 = 1 then (fun (z16 : Int64) => (fun (z17 : eb_St) => z17) (m_X10_ends σ 2 0 z16)) (m_X10_x σ 10) else (if z2 = 2 then (fun (z14 : Int64) => (fun (z15 : eb_St) => z15) (m_X10_give σ 10 z14)) (m_X10_key σ x1) else (if z2 = 3 then (fun (z7 : eb_St) => (fun (z8 : eb_St) => (if (z8.1 11 x1.toNatClampNeg) = 0 then (fun (z12 : eb_St) => (fun (z13 : eb_St) => z13) (m_X10_give z12 13 ((z12.1 11 x1.toNatClampNeg).toInt64))) (m_X10_give z8 12 0) else (fun (z10 : eb_St) => (fun (z11 : eb_St) => z11) (m_X10_give z10 13 ((z10.1 11 x1.toNatClampNeg).toInt64))) (m_X10_give z8 12 ((z8.1 10 x1.toNatClampNeg).toInt64)))) (m_X10_give z7 11 ((z7.1 8 x1.toNatClampNeg).toInt64))) (m_X10_give σ 10 ((σ.1 7 x1.toNatClampNeg).toInt64)) else (fun (z6 : eb_St) => z6) (m_X10_give σ 10 (-1)))))) (m_X10_x σ 17)) (σ.1 0 8)

def m_X10_enter (σ : eb_St) (a0 : Int32) : eb_St := (if (σ.1 6 a0.toNatClampNeg) = 3 then (fun (z4 : eb_St) => z4) (m_X10_give σ 10 (-5)) else (fun (z2 : Int64) => (fun (x3 : Int32) => eb_pI (eb_pI (eb_pI (eb_pI (eb_pI (eb_pI (eb_pJ σ 0 31 z2) 0 32 0) 6 a0.toNatClampNeg 4) 0 8 a0) 0 35 0) 0 11 ((σ.1 0 11) + 1)) 12 a0.toNatClampNeg x3) (((eb_pI (eb_pI (eb_pI (eb_pI (eb_pI (eb_pJ σ 0 31 z2) 0 32 0) 6 a0.toNatClampNeg 4) 0 8 a0) 0 35 0) 0 11 ((σ.1 0 11) + 1)).1 12 a0.toNatClampNeg) + 1)) (m_X10_x σ 11))

def m_X10_eye (σ : eb_St) (a0 : Int32) (a1 : Int32) : Int64 := (if a0 < 0 then 0 else (if (5 : Int32) < a0 then 0 else (fun (z3 : Bool) => (if (eb_b z3) = 0 then 0 else (if 0 ≤ a1 then (if (32 : Int32) ≤ a1 then (if (35 : Int32) ≤ a1 then (fun (x8 : Int32) => (if ((σ.1 8 a0.toNatClampNeg) / 8) ≤ x8 then 0 else (fun (z10 : Int64) => z10) (m_X10_take σ ((σ.1 7 a0.toNatClampNeg) + (8 * x8)) 8))) (a1 - 35) else (if a1 = 32 then σ.2 3 a0.toNatClampNeg else (if a1 = 33 then σ.2 14 a0.toNatClampNeg else (fun (z13 : Int64) => z13) (m_X10_key σ a0)))) else σ.2 2 ((32 * a0) + a1).toNatClampNeg) else 0))) (m_X10_isLive σ a0)))

def m_X10_fails (σ : eb_St) (a0 : Int32) : eb_St := (if (σ.1 0 8) < 0 then (if (σ.1 0 4) = 0 then eb_pI (eb_pJ (eb_pI σ 0 6 a0) 0 7 (σ.2 0 36)) 0 5 1 else (fun (x3 : Int64) => eb_pI (eb_pJ (eb_pJ (eb_pJ (eb_pJ (eb_pI σ 0 6 a0) 0 7 (σ.2 0 36)) 0 17 x3) 0 18 a0.toInt64) 0 19 (σ.2 0 36)) 0 5 2) (((eb_pJ (eb_pI σ 0 6 a0) 0 7 (σ.2 0 36)).2 3 (6 : Int32).toNatClampNeg) &&& (-4))) else (fun (z4 : eb_St) => z4) (m_X10_ends σ 3 2 a0.toInt64))
theorem J_X10_lets_122 {σ : eb_St} {v3 : Int32} {v6 : Int32} {mm : Bool × eb_St} (hm : (m_X10_lets_122  σ v3 v6) = mm) (hj_ : rJ σ) : rJ mm.2 := by
  have hm : (if (v6 &&& v3) = v3 then (true, σ) else (false, σ)) = mm := hm
  refine eb_emn (c := (v6 &&& v3) = v3) (fun h15 => ?_) (fun h15 => ?_)
  · have hm := (if_neg h15).symm.trans hm
    subst hm
    exact hj_
  · have hm := (if_pos h15).symm.trans hm
    subst hm
    exact hj_
theorem J_X10_lets_14 : ∀ (n : Nat) (σ : eb_St) (v1 : Int32) (v2 : Int32) (v3 : Int32) (v4 : Int32) (v5 : Int32) {mm : Bool × eb_St} (_ : (m_X10_lets_14  n σ v1 v2 v3 v4 v5) = mm) (hj_ : rJ σ) (i0_ : 0 ≤ v5.toInt) (i1_ : v4 = 0 ∨ v4 = 1) (hn : ((16 : Int32).toInt - v5.toInt).toNat < n), rJ mm.2 := by
  intro n
  induction n with
  | zero => intro σ v1 v2 v3 v4 v5 mm hm hj_ i0_ i1_ hn; exact absurd hn (Nat.not_lt_zero _)
  | succ n ih =>
    intro σ v1 v2 v3 v4 v5 mm hm hj_ i0_ i1_ hn
    have hm : (if (16 : Int32) ≤ v5 then (decide (¬ v4 = 0), σ) else (if (σ.2 16 v5.toNatClampNeg) ≤ (σ.2 15 v5.toNatClampNeg) then (fun (x5 : Int32) => m_X10_lets_14  n σ v1 v2 v3 v4 x5) (v5 + 1) else (if ((v1 + v2).toInt64) ≤ (σ.2 15 v5.toNatClampNeg) then (fun (x7 : Int32) => m_X10_lets_14  n σ v1 v2 v3 v4 x7) (v5 + 1) else (if v1.toInt64 < (σ.2 16 v5.toNatClampNeg) then (if v1.toInt64 < (σ.2 15 v5.toNatClampNeg) then (false, σ) else (if ((v1 + v2).toInt64) ≤ (σ.2 16 v5.toNatClampNeg) then (fun (z11 : Int32) => (if v4 = 0 then m_X10_lets_122  σ v3 z11 else (if (z11 &&& 128) = 0 then (true, σ) else m_X10_lets_122  σ v3 z11))) (m_X10_byteOf σ v5) else (false, σ))) else (fun (x14 : Int32) => m_X10_lets_14  n σ v1 v2 v3 v4 x14) (v5 + 1))))) = mm := hm
    refine eb_em (c := (16 : Int32) ≤ v5) (fun h3 => ?_) (fun h3 => ?_)
    · have hm := (if_pos h3).symm.trans hm
      subst hm
      exact hj_
    · have hm := (if_neg h3).symm.trans hm
      refine eb_em (c := (σ.2 16 v5.toNatClampNeg) ≤ (σ.2 15 v5.toNatClampNeg)) (fun h4 => ?_) (fun h4 => ?_)
      · have hm := (if_pos h4).symm.trans hm
        obtain ⟨x5, ex5⟩ : ∃ z : Int32, z = v5 + 1 := ⟨_, rfl⟩
        have hm : m_X10_lets_14  n σ v1 v2 v3 v4 x5 = mm := by rw [ex5]; exact hm
        exact ih σ v1 v2 v3 v4 x5 hm hj_ (eb_up i0_ (eb_nle h3) ex5 hn).1 i1_ (eb_up i0_ (eb_nle h3) ex5 hn).2
      · have hm := (if_neg h4).symm.trans hm
        refine eb_em (c := ((v1 + v2).toInt64) ≤ (σ.2 15 v5.toNatClampNeg)) (fun h6 => ?_) (fun h6 => ?_)
        · have hm := (if_pos h6).symm.trans hm
          obtain ⟨x7, ex7⟩ : ∃ z : Int32, z = v5 + 1 := ⟨_, rfl⟩
          have hm : m_X10_lets_14  n σ v1 v2 v3 v4 x7 = mm := by rw [ex7]; exact hm
          exact ih σ v1 v2 v3 v4 x7 hm hj_ (eb_up i0_ (eb_nle h3) ex7 hn).1 i1_ (eb_up i0_ (eb_nle h3) ex7 hn).2
        · have hm := (if_neg h6).symm.trans hm
          refine eb_em (c := v1.toInt64 < (σ.2 16 v5.toNatClampNeg)) (fun h8 => ?_) (fun h8 => ?_)
          · have hm := (if_pos h8).symm.trans hm
            refine eb_em (c := v1.toInt64 < (σ.2 15 v5.toNatClampNeg)) (fun h9 => ?_) (fun h9 => ?_)
            · have hm := (if_pos h9).symm.trans hm
              subst hm
              exact hj_
            · have hm := (if_neg h9).symm.trans hm
              refine eb_em (c := ((v1 + v2).toInt64) ≤ (σ.2 16 v5.toNatClampNeg)) (fun h10 => ?_) (fun h10 => ?_)
              · have hm := (if_pos h10).symm.trans hm
                obtain ⟨z11, qz11⟩ : ∃ t : Int32, t = m_X10_byteOf σ v5 := ⟨_, rfl⟩
                have hm : (if v4 = 0 then m_X10_lets_122  σ v3 z11 else (if (z11 &&& 128) = 0 then (true, σ) else m_X10_lets_122  σ v3 z11)) = mm := by rw [qz11]; exact hm
                refine eb_em (c := v4 = 0) (fun h12 => ?_) (fun h12 => ?_)
                · have hm := (if_pos h12).symm.trans hm
                  exact J_X10_lets_122 hm hj_
                · have hm := (if_neg h12).symm.trans hm
                  refine eb_em (c := (z11 &&& 128) = 0) (fun h13 => ?_) (fun h13 => ?_)
                  · have hm := (if_pos h13).symm.trans hm
                    subst hm
                    exact hj_
                  · have hm := (if_neg h13).symm.trans hm
                    exact J_X10_lets_122 hm hj_
              · have hm := (if_neg h10).symm.trans hm
                subst hm
                exact hj_
          · have hm := (if_neg h8).symm.trans hm
            obtain ⟨x14, ex14⟩ : ∃ z : Int32, z = v5 + 1 := ⟨_, rfl⟩
            have hm : m_X10_lets_14  n σ v1 v2 v3 v4 x14 = mm := by rw [ex14]; exact hm
            exact ih σ v1 v2 v3 v4 x14 hm hj_ (eb_up i0_ (eb_nle h3) ex14 hn).1 i1_ (eb_up i0_ (eb_nle h3) ex14 hn).2
theorem J_X10_lets_11 {σ : eb_St} {v1 : Int32} {v2 : Int32} {v3 : Int32} {v4 : Int32} {mm : Bool × eb_St} (hm : (m_X10_lets_11  σ v1 v2 v3 v4) = mm) (hj_ : rJ σ) (hb_ : v4 = 0 ∨ v4 = 1) : rJ mm.2 := by
  have hm : m_X10_lets_14  17 σ v1 v2 v3 v4 0 = mm := hm
  exact J_X10_lets_14 17 σ v1 v2 v3 v4 0 hm hj_ (by decide) hb_ (by decide)
theorem J_X10_lets {σ : eb_St} {a0 : Int32} {a1 : Int32} {a2 : Int32} {a3 : Int32} {mm : Bool × eb_St} (hm : m_X10_lets σ a0 a1 a2 a3 = mm) (hj_ : rJ σ) (h0_ : a3 = 0 ∨ a3 = 1) : rJ mm.2 := by
  have hm : (if (σ.1 0 35) = 0 then (fun (z2 : eb_St) => m_X10_lets_11  z2 a0 a1 a2 a3) (m_X10_spans σ) else m_X10_lets_11  σ a0 a1 a2 a3) = mm := hm
  refine eb_emn (c := (σ.1 0 35) = 0) (fun h1 => ?_) (fun h1 => ?_)
  · have hm := (if_neg h1).symm.trans hm
    exact J_X10_lets_11 hm hj_ h0_
  · have hm := (if_pos h1).symm.trans hm
    obtain ⟨z2, qz2⟩ : ∃ t : eb_St, t = m_X10_spans σ := ⟨_, rfl⟩
    have hm : m_X10_lets_11  z2 a0 a1 a2 a3 = mm := by rw [qz2]; exact hm
    have jz2 : rJ z2 := J_X10_spans qz2.symm hj_
    exact J_X10_lets_11 hm jz2 h0_
set_option maxHeartbeats 4000000 in
set_option maxRecDepth 100000 in
theorem k_X10_lets_122 {p : Program} {l : Launch} {e : Env} {s : State} {m : MethodId} {args : Array Value} {below : List Frame} {meth : Method} {c : Code} {A : Nat → Prop} {H : Heap} {locs : List Loc} {ls : Array Slot} {D : va_G} {cy : Nat → ClassId} {ad : Nat → Nat} (X : eb_X p s m args meth c cX10_lets 7 RX10 (Cond.code yX10_lets cX10_lets 7 (some .boolean) :: wsL_law) (some .boolean) D cy A)   (σ : eb_St) (v3 : Int32) (v6 : Int32) (hj_ : rJ σ) {mm : Bool × eb_St} (hm : (m_X10_lets_122  σ v3 v6) = mm) (hw : eb_H D 18 cy rL ad A s.heap σ H locs) (hl : lv_has ls 7 [(3, .int v3), (6, .int v6)]) : W p l e ({ frames := 4, cells := 0, slots := 0, locals := 92 } : Room) s m args below meth c H locs 0 0 (MQ below (eb_Q D 18 cy rL ad A (some (.int (eb_b mm.1))) mm.2) args s 0 0 A) (F0 m 122 ls []) := by
  have hx := X.1.1
  have hb := X.1.2.1
  have hown := X.1.2.2.2.1
  have hts := X.1.2.2.2.2
  have hm : (if (v6 &&& v3) = v3 then (true, σ) else (false, σ)) = mm := hm
  refine lv_iload hx hb dX10_lets_122 (lv_at hl 1 rfl) ?_
  refine lv_iload_n hx hb dX10_lets_124 rfl (lv_at hl 0 rfl) ?_
  refine lv_iand hx hb dX10_lets_125 ?_
  refine lv_iload_n hx hb dX10_lets_126 rfl (lv_at hl 0 rfl) ?_
  refine lv_icmp_ne (tgt := 134) hx hb dX10_lets_127 (by decide) (fun h15 => ?_) (fun h15 => ?_)
  · have hm := (if_neg h15).symm.trans hm
    refine lv_iconst (v := 0) hx hb dX10_lets_134 (by decide) ?_
    subst hm
    exact eb_zret X hw rfl rfl rfl rfl dX10_lets_135
  · have hm := (if_pos h15).symm.trans hm
    refine lv_iconst (v := 1) hx hb dX10_lets_130 (by decide) ?_
    refine lv_goto (tgt := 135) hx hb dX10_lets_131 (by decide) ?_
    subst hm
    exact eb_zret X hw rfl rfl rfl rfl dX10_lets_135
set_option maxHeartbeats 4000000 in
set_option maxRecDepth 100000 in
theorem k_X10_lets_14 {p : Program} {l : Launch} {e : Env} {s : State} {m : MethodId} {args : Array Value} {below : List Frame} {meth : Method} {c : Code} {A : Nat → Prop} {D : va_G} {cy : Nat → ClassId} {ad : Nat → Nat} (X : eb_X p s m args meth c cX10_lets 7 RX10 (Cond.code yX10_lets cX10_lets 7 (some .boolean) :: wsL_law) (some .boolean) D cy A)   : ∀ (n : Nat) (σ : eb_St) (v1 : Int32) (v2 : Int32) (v3 : Int32) (v4 : Int32) (v5 : Int32) (hj_ : rJ σ) (i0_ : 0 ≤ v5.toInt) (i1_ : v4 = 0 ∨ v4 = 1) (hn : ((16 : Int32).toInt - v5.toInt).toNat < n) {H : Heap} {locs : List Loc} {ls : Array Slot} {mm : Bool × eb_St} (_ : (m_X10_lets_14  n σ v1 v2 v3 v4 v5) = mm) (hw : eb_H D 18 cy rL ad A s.heap σ H locs) (hl : lv_has ls 7 [(0, .ref (ad 0)), (1, .int v1), (2, .int v2), (3, .int v3), (4, .int v4), (5, .int v5)]), W p l e ({ frames := 4, cells := 0, slots := 0, locals := 92 } : Room) s m args below meth c H locs 0 0 (MQ below (eb_Q D 18 cy rL ad A (some (.int (eb_b mm.1))) mm.2) args s 0 0 A) (F0 m 14 ls []) := by
  have hx := X.1.1
  have hb := X.1.2.1
  have hown := X.1.2.2.2.1
  have hts := X.1.2.2.2.2
  intro n
  induction n with
  | zero => intro σ v1 v2 v3 v4 v5 hj_ i0_ i1_ hn; exact absurd hn (Nat.not_lt_zero _)
  | succ n ih =>
    intro σ v1 v2 v3 v4 v5 hj_ i0_ i1_ hn H locs ls mm hm hw hl
    have hm : (if (16 : Int32) ≤ v5 then (decide (¬ v4 = 0), σ) else (if (σ.2 16 v5.toNatClampNeg) ≤ (σ.2 15 v5.toNatClampNeg) then (fun (x5 : Int32) => m_X10_lets_14  n σ v1 v2 v3 v4 x5) (v5 + 1) else (if ((v1 + v2).toInt64) ≤ (σ.2 15 v5.toNatClampNeg) then (fun (x7 : Int32) => m_X10_lets_14  n σ v1 v2 v3 v4 x7) (v5 + 1) else (if v1.toInt64 < (σ.2 16 v5.toNatClampNeg) then (if v1.toInt64 < (σ.2 15 v5.toNatClampNeg) then (false, σ) else (if ((v1 + v2).toInt64) ≤ (σ.2 16 v5.toNatClampNeg) then (fun (z11 : Int32) => (if v4 = 0 then m_X10_lets_122  σ v3 z11 else (if (z11 &&& 128) = 0 then (true, σ) else m_X10_lets_122  σ v3 z11))) (m_X10_byteOf σ v5) else (false, σ))) else (fun (x14 : Int32) => m_X10_lets_14  n σ v1 v2 v3 v4 x14) (v5 + 1))))) = mm := hm
    refine lv_iload hx hb dX10_lets_14 (lv_at hl 5 rfl) ?_
    refine lv_bipush (v := 16) hx hb dX10_lets_16 (by decide) ?_
    refine lv_icmp_ge (tgt := 142) hx hb dX10_lets_18 (by decide) (fun h3 => ?_) (fun h3 => ?_)
    · have hm := (if_pos h3).symm.trans hm
      refine lv_iload hx hb dX10_lets_142 (lv_at hl 4 rfl) ?_
      subst hm
      exact eb_zret X hw rfl (eb_b_narv i1_) (by rw [eb_b_of i1_]) rfl dX10_lets_144
    · have hm := (if_neg h3).symm.trans hm
      refine lv_aload_n hx hb dX10_lets_21 rfl (lv_at hl 0 rfl) ?_
      refine eb_get (T := TX10) X hw 0 33 (by decide) ⟨rfl, rfl, rfl⟩ (by decide) (fun _ h => List.mem_cons_of_mem _ (inlX10 _ h)) (List.mem_cons_of_mem _ wi_6_1) (v := .ref (ad 15)) rfl dX10_lets_22 ?_
      refine lv_iload hx hb dX10_lets_25 (lv_at hl 5 rfl) ?_
      refine eb_lald (n := 16) X hw 15 (by decide) rfl rfl (eb_inU (by decide) i0_ (eb_nle h3)) dX10_lets_27 ?_
      refine lv_aload_n hx hb dX10_lets_28 rfl (lv_at hl 0 rfl) ?_
      refine eb_get (T := TX10) X hw 0 34 (by decide) ⟨rfl, rfl, rfl⟩ (by decide) (fun _ h => List.mem_cons_of_mem _ (inlX10 _ h)) (List.mem_cons_of_mem _ wi_6_2) (v := .ref (ad 16)) rfl dX10_lets_29 ?_
      refine lv_iload hx hb dX10_lets_32 (lv_at hl 5 rfl) ?_
      refine eb_lald (n := 16) X hw 16 (by decide) rfl rfl (eb_inU (by decide) i0_ (eb_nle h3)) dX10_lets_34 ?_
      refine eb_lif_ge (tgt := 136) hx hb dX10_lets_35 dX10_lets_36 (by decide) (fun h4 => ?_) (fun h4 => ?_)
      · have hm := (if_pos h4).symm.trans hm
        obtain ⟨x5, ex5⟩ : ∃ z : Int32, z = v5 + 1 := ⟨_, rfl⟩
        have hm : m_X10_lets_14  n σ v1 v2 v3 v4 x5 = mm := by rw [ex5]; exact hm
        refine lv_iinc (v := x5) (lv' := [(5, .int x5), (0, .ref (ad 0)), (1, .int v1), (2, .int v2), (3, .int v3), (4, .int v4)]) hx hb dX10_lets_136 hl (k := 5) rfl (by rw [ex5]; exact congrArg (v5 + ·) (by decide)) (by decide) rfl (fun ls hl => ?_)
        refine lv_goto (tgt := 14) hx hb dX10_lets_139 (by decide) ?_
        exact ih σ v1 v2 v3 v4 x5 hj_ (eb_up i0_ (eb_nle h3) ex5 hn).1 i1_ (eb_up i0_ (eb_nle h3) ex5 hn).2 hm hw (lv_sub hl [1, 2, 3, 4, 5, 0] rfl)
      · have hm := (if_neg h4).symm.trans hm
        refine lv_iload_n hx hb dX10_lets_39 rfl (lv_at hl 1 rfl) ?_
        refine lv_iload_n hx hb dX10_lets_40 rfl (lv_at hl 2 rfl) ?_
        refine lv_iadd hx hb dX10_lets_41 ?_
        refine lv_i2l (v := (v1 + v2).toInt64) hx hb dX10_lets_42 rfl ?_
        refine lv_aload_n hx hb dX10_lets_43 rfl (lv_at hl 0 rfl) ?_
        refine eb_get (T := TX10) X hw 0 33 (by decide) ⟨rfl, rfl, rfl⟩ (by decide) (fun _ h => List.mem_cons_of_mem _ (inlX10 _ h)) (List.mem_cons_of_mem _ wi_6_1) (v := .ref (ad 15)) rfl dX10_lets_44 ?_
        refine lv_iload hx hb dX10_lets_47 (lv_at hl 5 rfl) ?_
        refine eb_lald (n := 16) X hw 15 (by decide) rfl rfl (eb_inU (by decide) i0_ (eb_nle h3)) dX10_lets_49 ?_
        refine eb_lif_le (tgt := 136) hx hb dX10_lets_50 dX10_lets_51 (by decide) (fun h6 => ?_) (fun h6 => ?_)
        · have hm := (if_pos h6).symm.trans hm
          obtain ⟨x7, ex7⟩ : ∃ z : Int32, z = v5 + 1 := ⟨_, rfl⟩
          have hm : m_X10_lets_14  n σ v1 v2 v3 v4 x7 = mm := by rw [ex7]; exact hm
          refine lv_iinc (v := x7) (lv' := [(5, .int x7), (0, .ref (ad 0)), (1, .int v1), (2, .int v2), (3, .int v3), (4, .int v4)]) hx hb dX10_lets_136 hl (k := 5) rfl (by rw [ex7]; exact congrArg (v5 + ·) (by decide)) (by decide) rfl (fun ls hl => ?_)
          refine lv_goto (tgt := 14) hx hb dX10_lets_139 (by decide) ?_
          exact ih σ v1 v2 v3 v4 x7 hj_ (eb_up i0_ (eb_nle h3) ex7 hn).1 i1_ (eb_up i0_ (eb_nle h3) ex7 hn).2 hm hw (lv_sub hl [1, 2, 3, 4, 5, 0] rfl)
        · have hm := (if_neg h6).symm.trans hm
          refine lv_iload_n hx hb dX10_lets_54 rfl (lv_at hl 1 rfl) ?_
          refine lv_i2l (v := v1.toInt64) hx hb dX10_lets_55 rfl ?_
          refine lv_aload_n hx hb dX10_lets_56 rfl (lv_at hl 0 rfl) ?_
          refine eb_get (T := TX10) X hw 0 34 (by decide) ⟨rfl, rfl, rfl⟩ (by decide) (fun _ h => List.mem_cons_of_mem _ (inlX10 _ h)) (List.mem_cons_of_mem _ wi_6_2) (v := .ref (ad 16)) rfl dX10_lets_57 ?_
          refine lv_iload hx hb dX10_lets_60 (lv_at hl 5 rfl) ?_
          refine eb_lald (n := 16) X hw 16 (by decide) rfl rfl (eb_inU (by decide) i0_ (eb_nle h3)) dX10_lets_62 ?_
          refine eb_lif_lt (tgt := 70) hx hb dX10_lets_63 dX10_lets_64 (by decide) (fun h8 => ?_) (fun h8 => ?_)
          · have hm := (if_pos h8).symm.trans hm
            refine lv_iload_n hx hb dX10_lets_70 rfl (lv_at hl 1 rfl) ?_
            refine lv_i2l (v := v1.toInt64) hx hb dX10_lets_71 rfl ?_
            refine lv_aload_n hx hb dX10_lets_72 rfl (lv_at hl 0 rfl) ?_
            refine eb_get (T := TX10) X hw 0 33 (by decide) ⟨rfl, rfl, rfl⟩ (by decide) (fun _ h => List.mem_cons_of_mem _ (inlX10 _ h)) (List.mem_cons_of_mem _ wi_6_1) (v := .ref (ad 15)) rfl dX10_lets_73 ?_
            refine lv_iload hx hb dX10_lets_76 (lv_at hl 5 rfl) ?_
            refine eb_lald (n := 16) X hw 15 (by decide) rfl rfl (eb_inU (by decide) i0_ (eb_nle h3)) dX10_lets_78 ?_
            refine eb_lif_lt (tgt := 98) hx hb dX10_lets_79 dX10_lets_80 (by decide) (fun h9 => ?_) (fun h9 => ?_)
            · have hm := (if_pos h9).symm.trans hm
              refine lv_iconst (v := 0) hx hb dX10_lets_98 (by decide) ?_
              subst hm
              exact eb_zret X hw rfl rfl rfl rfl dX10_lets_99
            · have hm := (if_neg h9).symm.trans hm
              refine lv_iload_n hx hb dX10_lets_83 rfl (lv_at hl 1 rfl) ?_
              refine lv_iload_n hx hb dX10_lets_84 rfl (lv_at hl 2 rfl) ?_
              refine lv_iadd hx hb dX10_lets_85 ?_
              refine lv_i2l (v := (v1 + v2).toInt64) hx hb dX10_lets_86 rfl ?_
              refine lv_aload_n hx hb dX10_lets_87 rfl (lv_at hl 0 rfl) ?_
              refine eb_get (T := TX10) X hw 0 34 (by decide) ⟨rfl, rfl, rfl⟩ (by decide) (fun _ h => List.mem_cons_of_mem _ (inlX10 _ h)) (List.mem_cons_of_mem _ wi_6_2) (v := .ref (ad 16)) rfl dX10_lets_88 ?_
              refine lv_iload hx hb dX10_lets_91 (lv_at hl 5 rfl) ?_
              refine eb_lald (n := 16) X hw 16 (by decide) rfl rfl (eb_inU (by decide) i0_ (eb_nle h3)) dX10_lets_93 ?_
              refine eb_lif_le (tgt := 100) hx hb dX10_lets_94 dX10_lets_95 (by decide) (fun h10 => ?_) (fun h10 => ?_)
              · have hm := (if_pos h10).symm.trans hm
                refine lv_aload_n hx hb dX10_lets_100 rfl (lv_at hl 0 rfl) ?_
                refine lv_iload hx hb dX10_lets_101 (lv_at hl 5 rfl) ?_
                obtain ⟨z11, qz11⟩ : ∃ t : Int32, t = m_X10_byteOf σ v5 := ⟨_, rfl⟩
                have hm : (if v4 = 0 then m_X10_lets_122  σ v3 z11 else (if (z11 &&& 128) = 0 then (true, σ) else m_X10_lets_122  σ v3 z11)) = mm := by rw [qz11]; exact hm
                have hc : eb_M l yX10_byteOf (Cond.code yX10_byteOf cX10_byteOf 2 (some .int) :: wsL_law) 1 21 D 18 cy rL ad σ [.ref (ad 0), .int v5] (some (.int z11)) σ := by rw [qz11]; exact c_X10_byteOf l D cy ad σ v5 hj_ (eb_inU (by decide) i0_ (eb_nle h3))
                refine eb_callV (n := 1) (as := [.int v5]) (rest := []) X hw hl.1 0 hc (by decide) ⟨rfl, rfl, rfl⟩ (eb_goodV wi_31_15 wi_31_16 wi_31_17 wi_1_5 wi_31_18) rfl (by decide +kernel) ⟨by decide, by decide⟩ rfl rfl (Nat.le_of_ble_eq_true rfl) dX10_lets_103 ⟨by decide, by decide⟩ (st' := [.int z11]) rfl (fun H locs hw => ?_)
                refine lv_istore (lv' := [(6, .int z11), (0, .ref (ad 0)), (1, .int v1), (2, .int v2), (3, .int v3), (4, .int v4), (5, .int v5)]) hx hb dX10_lets_106 hl (by decide) rfl (fun ls hl => ?_)
                refine lv_iload hx hb dX10_lets_108 (lv_at hl 5 rfl) ?_
                refine lv_if_eq (tgt := 122) hx hb dX10_lets_110 (by decide) (fun h12 => ?_) (fun h12 => ?_)
                · have hm := (if_pos h12).symm.trans hm
                  exact k_X10_lets_122 X   σ v3 z11 hj_ hm hw (lv_sub hl [4, 0] rfl)
                · have hm := (if_neg h12).symm.trans hm
                  refine lv_iload hx hb dX10_lets_113 (lv_at hl 0 rfl) ?_
                  refine lv_sipush (v := 128) hx hb dX10_lets_115 (by decide) ?_
                  refine lv_iand hx hb dX10_lets_118 ?_
                  refine lv_if_eq (tgt := 130) hx hb dX10_lets_119 (by decide) (fun h13 => ?_) (fun h13 => ?_)
                  · have hm := (if_pos h13).symm.trans hm
                    refine lv_iconst (v := 1) hx hb dX10_lets_130 (by decide) ?_
                    refine lv_goto (tgt := 135) hx hb dX10_lets_131 (by decide) ?_
                    subst hm
                    exact eb_zret X hw rfl rfl rfl rfl dX10_lets_135
                  · have hm := (if_neg h13).symm.trans hm
                    exact k_X10_lets_122 X   σ v3 z11 hj_ hm hw (lv_sub hl [4, 0] rfl)
              · have hm := (if_neg h10).symm.trans hm
                refine lv_iconst (v := 0) hx hb dX10_lets_98 (by decide) ?_
                subst hm
                exact eb_zret X hw rfl rfl rfl rfl dX10_lets_99
          · have hm := (if_neg h8).symm.trans hm
            refine lv_goto (tgt := 136) hx hb dX10_lets_67 (by decide) ?_
            obtain ⟨x14, ex14⟩ : ∃ z : Int32, z = v5 + 1 := ⟨_, rfl⟩
            have hm : m_X10_lets_14  n σ v1 v2 v3 v4 x14 = mm := by rw [ex14]; exact hm
            refine lv_iinc (v := x14) (lv' := [(5, .int x14), (0, .ref (ad 0)), (1, .int v1), (2, .int v2), (3, .int v3), (4, .int v4)]) hx hb dX10_lets_136 hl (k := 5) rfl (by rw [ex14]; exact congrArg (v5 + ·) (by decide)) (by decide) rfl (fun ls hl => ?_)
            refine lv_goto (tgt := 14) hx hb dX10_lets_139 (by decide) ?_
            exact ih σ v1 v2 v3 v4 x14 hj_ (eb_up i0_ (eb_nle h3) ex14 hn).1 i1_ (eb_up i0_ (eb_nle h3) ex14 hn).2 hm hw (lv_sub hl [1, 2, 3, 4, 5, 0] rfl)
set_option maxHeartbeats 4000000 in
set_option maxRecDepth 100000 in
theorem k_X10_lets_11 {p : Program} {l : Launch} {e : Env} {s : State} {m : MethodId} {args : Array Value} {below : List Frame} {meth : Method} {c : Code} {A : Nat → Prop} {H : Heap} {locs : List Loc} {ls : Array Slot} {D : va_G} {cy : Nat → ClassId} {ad : Nat → Nat} (X : eb_X p s m args meth c cX10_lets 7 RX10 (Cond.code yX10_lets cX10_lets 7 (some .boolean) :: wsL_law) (some .boolean) D cy A)   (σ : eb_St) (v1 : Int32) (v2 : Int32) (v3 : Int32) (v4 : Int32) (hj_ : rJ σ) (hb_ : v4 = 0 ∨ v4 = 1) {mm : Bool × eb_St} (hm : (m_X10_lets_11  σ v1 v2 v3 v4) = mm) (hw : eb_H D 18 cy rL ad A s.heap σ H locs) (hl : lv_has ls 7 [(0, .ref (ad 0)), (1, .int v1), (2, .int v2), (3, .int v3), (4, .int v4)]) : W p l e ({ frames := 4, cells := 0, slots := 0, locals := 92 } : Room) s m args below meth c H locs 0 0 (MQ below (eb_Q D 18 cy rL ad A (some (.int (eb_b mm.1))) mm.2) args s 0 0 A) (F0 m 11 ls []) := by
  have hx := X.1.1
  have hb := X.1.2.1
  have hown := X.1.2.2.2.1
  have hts := X.1.2.2.2.2
  have hm : m_X10_lets_14  17 σ v1 v2 v3 v4 0 = mm := hm
  refine lv_iconst (v := 0) hx hb dX10_lets_11 (by decide) ?_
  refine lv_istore (lv' := [(5, .int 0), (0, .ref (ad 0)), (1, .int v1), (2, .int v2), (3, .int v3), (4, .int v4)]) hx hb dX10_lets_12 hl (by decide) rfl (fun ls hl => ?_)
  exact k_X10_lets_14 X   17 σ v1 v2 v3 v4 0 hj_ (by decide) hb_ (by decide) hm hw (lv_sub hl [1, 2, 3, 4, 5, 0] rfl)
set_option maxHeartbeats 4000000 in
set_option maxRecDepth 100000 in
theorem c_X10_lets (l : Launch) (D : va_G) (cy : Nat → ClassId) (ad : Nat → Nat) (σ : eb_St) (a0 : Int32) (a1 : Int32) (a2 : Int32) (a3 : Int32) (hj_ : rJ σ) (h0_ : a3 = 0 ∨ a3 = 1) : eb_M l yX10_lets (Cond.code yX10_lets cX10_lets 7 (some .boolean) :: wsL_law) 4 92 D 18 cy rL ad σ [.ref (ad 0), .int a0, .int a1, .int a2, .int a3] (some (.int (eb_b (m_X10_lets σ a0 a1 a2 a3).1))) ((m_X10_lets σ a0 a1 a2 a3).2) := by
  refine eb_start (own := RX10) (by decide) rfl rfl (Nat.le_of_ble_eq_true rfl) ?_
  intro p e s m args below meth c A ls X hw hl
  have hl : lv_has ls 7 [(0, .ref (ad 0)), (1, .int a0), (2, .int a1), (3, .int a2), (4, .int a3)] := hl
  have hx := X.1.1
  have hb := X.1.2.1
  have hown := X.1.2.2.2.1
  have hts := X.1.2.2.2.2
  generalize hm : m_X10_lets σ a0 a1 a2 a3 = mm
  have hm : (if (σ.1 0 35) = 0 then (fun (z2 : eb_St) => m_X10_lets_11  z2 a0 a1 a2 a3) (m_X10_spans σ) else m_X10_lets_11  σ a0 a1 a2 a3) = mm := hm
  refine lv_aload_n hx hb dX10_lets_0 rfl (lv_at hl 0 rfl) ?_
  refine eb_get (T := TX10) X hw 0 35 (by decide) ⟨rfl, rfl, rfl⟩ (by decide) (fun _ h => List.mem_cons_of_mem _ (inlX10 _ h)) (List.mem_cons_of_mem _ wi_9_21) (v := .int (σ.1 0 35)) rfl dX10_lets_1 ?_
  refine lv_if_ne (tgt := 11) hx hb dX10_lets_4 (by decide) (fun h1 => ?_) (fun h1 => ?_)
  · have hm := (if_neg h1).symm.trans hm
    exact k_X10_lets_11 X   σ a0 a1 a2 a3 hj_ h0_ hm hw (lv_sub hl [0, 1, 2, 3, 4] rfl)
  · have hm := (if_pos h1).symm.trans hm
    refine lv_aload_n hx hb dX10_lets_7 rfl (lv_at hl 0 rfl) ?_
    obtain ⟨z2, qz2⟩ : ∃ t : eb_St, t = m_X10_spans σ := ⟨_, rfl⟩
    have hm : m_X10_lets_11  z2 a0 a1 a2 a3 = mm := by rw [qz2]; exact hm
    have jz2 : rJ z2 := J_X10_spans qz2.symm hj_
    have hc : eb_M l yX10_spans (Cond.code yX10_spans cX10_spans 10 none :: wsL_law) 3 63 D 18 cy rL ad σ [.ref (ad 0)] (none) z2 := by rw [qz2]; exact c_X10_spans l D cy ad σ hj_
    refine eb_callV (n := 0) (as := []) (rest := []) X hw hl.1 0 hc (by decide) ⟨rfl, rfl, rfl⟩ (eb_goodV wi_31_7 wi_31_8 wi_31_9 wi_1_5 wi_31_10) rfl (by decide +kernel) ⟨by decide, by decide⟩ rfl rfl (Nat.le_of_ble_eq_true rfl) dX10_lets_8 ⟨by decide, by decide⟩ (st' := []) rfl (fun H locs hw => ?_)
    exact k_X10_lets_11 X   z2 a0 a1 a2 a3 jz2 h0_ hm hw (lv_sub hl [0, 1, 2, 3, 4] rfl)

theorem J_X10_loads {σ : eb_St}  {mm : Int32 × eb_St} (hm : m_X10_loads σ = mm) (hj_ : rJ σ) : rJ mm.2 := by
  have hm : (if (σ.1 0 41) = 7 then (fun (z18 : Int32 × eb_St) => (z18.1, z18.2)) (m_X10_illegal σ) else (fun (z2 : Int64) => (fun (x3 : Int64) => (fun (x4 : Int32) => (if (x3 &&& ((x4 - 1).toInt64)) = 0 then (fun (z6 : Bool) => (if (eb_b z6) = 0 then (fun (z8 : Int32 × eb_St) => (z8.1, z8.2)) (m_X10_fault σ 5 x3) else (fun (z9 : Bool × eb_St) => (if (eb_b z9.1) = 0 then (fun (z16 : Int32 × eb_St) => (z16.1, z16.2)) (m_X10_fault z9.2 5 x3) else (fun (z11 : Int64) => (fun (x12 : Int32) => (if (z9.2.1 0 41) ≤ 3 then (fun (z14 : Int32 × eb_St) => (z14.1, z14.2)) (m_X10_sets z9.2 (eb_lshr (eb_lshl z11 x12) x12)) else (fun (z15 : Int32 × eb_St) => (z15.1, z15.2)) (m_X10_sets z9.2 z11))) (64 - (8 * x4))) (m_X10_take z9.2 x3.toInt32 x4))) (m_X10_lets σ x3.toInt32 x4 1 (σ.1 0 4)))) (m_X10_isMemory x3 x4) else (fun (z17 : Int32 × eb_St) => (z17.1, z17.2)) (m_X10_fault σ 4 x3))) (1 <<< (((σ.1 0 41) &&& 3) &&& 31))) (z2 + (((σ.1 0 37) >>> (20 &&& 31)).toInt64))) (m_X10_x σ (σ.1 0 39))) = mm := hm
  refine eb_emn (c := (σ.1 0 41) = 7) (fun h1 => ?_) (fun h1 => ?_)
  · have hm := (if_neg h1).symm.trans hm
    obtain ⟨z2, qz2⟩ : ∃ t : Int64, t = m_X10_x σ (σ.1 0 39) := ⟨_, rfl⟩
    have hm : (fun (x3 : Int64) => (fun (x4 : Int32) => (if (x3 &&& ((x4 - 1).toInt64)) = 0 then (fun (z6 : Bool) => (if (eb_b z6) = 0 then (fun (z8 : Int32 × eb_St) => (z8.1, z8.2)) (m_X10_fault σ 5 x3) else (fun (z9 : Bool × eb_St) => (if (eb_b z9.1) = 0 then (fun (z16 : Int32 × eb_St) => (z16.1, z16.2)) (m_X10_fault z9.2 5 x3) else (fun (z11 : Int64) => (fun (x12 : Int32) => (if (z9.2.1 0 41) ≤ 3 then (fun (z14 : Int32 × eb_St) => (z14.1, z14.2)) (m_X10_sets z9.2 (eb_lshr (eb_lshl z11 x12) x12)) else (fun (z15 : Int32 × eb_St) => (z15.1, z15.2)) (m_X10_sets z9.2 z11))) (64 - (8 * x4))) (m_X10_take z9.2 x3.toInt32 x4))) (m_X10_lets σ x3.toInt32 x4 1 (σ.1 0 4)))) (m_X10_isMemory x3 x4) else (fun (z17 : Int32 × eb_St) => (z17.1, z17.2)) (m_X10_fault σ 4 x3))) (1 <<< (((σ.1 0 41) &&& 3) &&& 31))) (z2 + (((σ.1 0 37) >>> (20 &&& 31)).toInt64)) = mm := by rw [qz2]; exact hm
    obtain ⟨x3, ex3⟩ : ∃ z : Int64, z = z2 + (((σ.1 0 37) >>> (20 &&& 31)).toInt64) := ⟨_, rfl⟩
    have hm : (fun (x4 : Int32) => (if (x3 &&& ((x4 - 1).toInt64)) = 0 then (fun (z6 : Bool) => (if (eb_b z6) = 0 then (fun (z8 : Int32 × eb_St) => (z8.1, z8.2)) (m_X10_fault σ 5 x3) else (fun (z9 : Bool × eb_St) => (if (eb_b z9.1) = 0 then (fun (z16 : Int32 × eb_St) => (z16.1, z16.2)) (m_X10_fault z9.2 5 x3) else (fun (z11 : Int64) => (fun (x12 : Int32) => (if (z9.2.1 0 41) ≤ 3 then (fun (z14 : Int32 × eb_St) => (z14.1, z14.2)) (m_X10_sets z9.2 (eb_lshr (eb_lshl z11 x12) x12)) else (fun (z15 : Int32 × eb_St) => (z15.1, z15.2)) (m_X10_sets z9.2 z11))) (64 - (8 * x4))) (m_X10_take z9.2 x3.toInt32 x4))) (m_X10_lets σ x3.toInt32 x4 1 (σ.1 0 4)))) (m_X10_isMemory x3 x4) else (fun (z17 : Int32 × eb_St) => (z17.1, z17.2)) (m_X10_fault σ 4 x3))) (1 <<< (((σ.1 0 41) &&& 3) &&& 31)) = mm := by rw [ex3]; exact hm
    obtain ⟨x4, ex4⟩ : ∃ z : Int32, z = 1 <<< (((σ.1 0 41) &&& 3) &&& 31) := ⟨_, rfl⟩
    have hm : (if (x3 &&& ((x4 - 1).toInt64)) = 0 then (fun (z6 : Bool) => (if (eb_b z6) = 0 then (fun (z8 : Int32 × eb_St) => (z8.1, z8.2)) (m_X10_fault σ 5 x3) else (fun (z9 : Bool × eb_St) => (if (eb_b z9.1) = 0 then (fun (z16 : Int32 × eb_St) => (z16.1, z16.2)) (m_X10_fault z9.2 5 x3) else (fun (z11 : Int64) => (fun (x12 : Int32) => (if (z9.2.1 0 41) ≤ 3 then (fun (z14 : Int32 × eb_St) => (z14.1, z14.2)) (m_X10_sets z9.2 (eb_lshr (eb_lshl z11 x12) x12)) else (fun (z15 : Int32 × eb_St) => (z15.1, z15.2)) (m_X10_sets z9.2 z11))) (64 - (8 * x4))) (m_X10_take z9.2 x3.toInt32 x4))) (m_X10_lets σ x3.toInt32 x4 1 (σ.1 0 4)))) (m_X10_isMemory x3 x4) else (fun (z17 : Int32 × eb_St) => (z17.1, z17.2)) (m_X10_fault σ 4 x3)) = mm := by rw [ex4]; exact hm
    refine eb_em (c := (x3 &&& ((x4 - 1).toInt64)) = 0) (fun h5 => ?_) (fun h5 => ?_)
    · have hm := (if_pos h5).symm.trans hm
      obtain ⟨z6, qz6⟩ : ∃ t : Bool, t = m_X10_isMemory x3 x4 := ⟨_, rfl⟩
      have hm : (if (eb_b z6) = 0 then (fun (z8 : Int32 × eb_St) => (z8.1, z8.2)) (m_X10_fault σ 5 x3) else (fun (z9 : Bool × eb_St) => (if (eb_b z9.1) = 0 then (fun (z16 : Int32 × eb_St) => (z16.1, z16.2)) (m_X10_fault z9.2 5 x3) else (fun (z11 : Int64) => (fun (x12 : Int32) => (if (z9.2.1 0 41) ≤ 3 then (fun (z14 : Int32 × eb_St) => (z14.1, z14.2)) (m_X10_sets z9.2 (eb_lshr (eb_lshl z11 x12) x12)) else (fun (z15 : Int32 × eb_St) => (z15.1, z15.2)) (m_X10_sets z9.2 z11))) (64 - (8 * x4))) (m_X10_take z9.2 x3.toInt32 x4))) (m_X10_lets σ x3.toInt32 x4 1 (σ.1 0 4))) = mm := by rw [qz6]; exact hm
      refine eb_em (c := (eb_b z6) = 0) (fun h7 => ?_) (fun h7 => ?_)
      · have hm := (if_pos h7).symm.trans hm
        obtain ⟨z8, qz8⟩ : ∃ t : Int32 × eb_St, t = m_X10_fault σ 5 x3 := ⟨_, rfl⟩
        have hm : (z8.1, z8.2) = mm := by rw [qz8]; exact hm
        have jz8 : rJ z8.2 := J_X10_fault qz8.symm hj_
        subst hm
        exact jz8
      · have hm := (if_neg h7).symm.trans hm
        obtain ⟨z9, qz9⟩ : ∃ t : Bool × eb_St, t = m_X10_lets σ x3.toInt32 x4 1 (σ.1 0 4) := ⟨_, rfl⟩
        have hm : (if (eb_b z9.1) = 0 then (fun (z16 : Int32 × eb_St) => (z16.1, z16.2)) (m_X10_fault z9.2 5 x3) else (fun (z11 : Int64) => (fun (x12 : Int32) => (if (z9.2.1 0 41) ≤ 3 then (fun (z14 : Int32 × eb_St) => (z14.1, z14.2)) (m_X10_sets z9.2 (eb_lshr (eb_lshl z11 x12) x12)) else (fun (z15 : Int32 × eb_St) => (z15.1, z15.2)) (m_X10_sets z9.2 z11))) (64 - (8 * x4))) (m_X10_take z9.2 x3.toInt32 x4)) = mm := by rw [qz9]; exact hm
        have jz9 : rJ z9.2 := J_X10_lets qz9.symm hj_ hj_.2.2.2.2.2.1
        refine eb_emn (c := (eb_b z9.1) = 0) (fun h10 => ?_) (fun h10 => ?_)
        · have hm := (if_neg h10).symm.trans hm
          obtain ⟨z11, qz11⟩ : ∃ t : Int64, t = m_X10_take z9.2 x3.toInt32 x4 := ⟨_, rfl⟩
          have hm : (fun (x12 : Int32) => (if (z9.2.1 0 41) ≤ 3 then (fun (z14 : Int32 × eb_St) => (z14.1, z14.2)) (m_X10_sets z9.2 (eb_lshr (eb_lshl z11 x12) x12)) else (fun (z15 : Int32 × eb_St) => (z15.1, z15.2)) (m_X10_sets z9.2 z11))) (64 - (8 * x4)) = mm := by rw [qz11]; exact hm
          obtain ⟨x12, ex12⟩ : ∃ z : Int32, z = 64 - (8 * x4) := ⟨_, rfl⟩
          have hm : (if (z9.2.1 0 41) ≤ 3 then (fun (z14 : Int32 × eb_St) => (z14.1, z14.2)) (m_X10_sets z9.2 (eb_lshr (eb_lshl z11 x12) x12)) else (fun (z15 : Int32 × eb_St) => (z15.1, z15.2)) (m_X10_sets z9.2 z11)) = mm := by rw [ex12]; exact hm
          refine eb_em (c := (z9.2.1 0 41) ≤ 3) (fun h13 => ?_) (fun h13 => ?_)
          · have hm := (if_pos h13).symm.trans hm
            obtain ⟨z14, qz14⟩ : ∃ t : Int32 × eb_St, t = m_X10_sets z9.2 (eb_lshr (eb_lshl z11 x12) x12) := ⟨_, rfl⟩
            have hm : (z14.1, z14.2) = mm := by rw [qz14]; exact hm
            have jz14 : rJ z14.2 := J_X10_sets qz14.symm jz9
            subst hm
            exact jz14
          · have hm := (if_neg h13).symm.trans hm
            obtain ⟨z15, qz15⟩ : ∃ t : Int32 × eb_St, t = m_X10_sets z9.2 z11 := ⟨_, rfl⟩
            have hm : (z15.1, z15.2) = mm := by rw [qz15]; exact hm
            have jz15 : rJ z15.2 := J_X10_sets qz15.symm jz9
            subst hm
            exact jz15
        · have hm := (if_pos h10).symm.trans hm
          obtain ⟨z16, qz16⟩ : ∃ t : Int32 × eb_St, t = m_X10_fault z9.2 5 x3 := ⟨_, rfl⟩
          have hm : (z16.1, z16.2) = mm := by rw [qz16]; exact hm
          have jz16 : rJ z16.2 := J_X10_fault qz16.symm jz9
          subst hm
          exact jz16
    · have hm := (if_neg h5).symm.trans hm
      obtain ⟨z17, qz17⟩ : ∃ t : Int32 × eb_St, t = m_X10_fault σ 4 x3 := ⟨_, rfl⟩
      have hm : (z17.1, z17.2) = mm := by rw [qz17]; exact hm
      have jz17 : rJ z17.2 := J_X10_fault qz17.symm hj_
      subst hm
      exact jz17
  · have hm := (if_pos h1).symm.trans hm
    obtain ⟨z18, qz18⟩ : ∃ t : Int32 × eb_St, t = m_X10_illegal σ := ⟨_, rfl⟩
    have hm : (z18.1, z18.2) = mm := by rw [qz18]; exact hm
    have jz18 : rJ z18.2 := J_X10_illegal qz18.symm hj_
    subst hm
    exact jz18
set_option maxHeartbeats 4000000 in
set_option maxRecDepth 100000 in
theorem c_X10_loads (l : Launch) (D : va_G) (cy : Nat → ClassId) (ad : Nat → Nat) (σ : eb_St)  (hj_ : rJ σ) : eb_M l yX10_loads (Cond.code yX10_loads cX10_loads 7 (some .int) :: wsL_law) 5 118 D 18 cy rL ad σ [.ref (ad 0)] (some (.int (m_X10_loads σ).1)) ((m_X10_loads σ).2) := by
  refine eb_start (own := RX10) (by decide) rfl rfl (Nat.le_of_ble_eq_true rfl) ?_
  intro p e s m args below meth c A ls X hw hl
  have hl : lv_has ls 7 [(0, .ref (ad 0))] := hl
  have hx := X.1.1
  have hb := X.1.2.1
  have hown := X.1.2.2.2.1
  have hts := X.1.2.2.2.2
  generalize hm : m_X10_loads σ = mm
  have hm : (if (σ.1 0 41) = 7 then (fun (z18 : Int32 × eb_St) => (z18.1, z18.2)) (m_X10_illegal σ) else (fun (z2 : Int64) => (fun (x3 : Int64) => (fun (x4 : Int32) => (if (x3 &&& ((x4 - 1).toInt64)) = 0 then (fun (z6 : Bool) => (if (eb_b z6) = 0 then (fun (z8 : Int32 × eb_St) => (z8.1, z8.2)) (m_X10_fault σ 5 x3) else (fun (z9 : Bool × eb_St) => (if (eb_b z9.1) = 0 then (fun (z16 : Int32 × eb_St) => (z16.1, z16.2)) (m_X10_fault z9.2 5 x3) else (fun (z11 : Int64) => (fun (x12 : Int32) => (if (z9.2.1 0 41) ≤ 3 then (fun (z14 : Int32 × eb_St) => (z14.1, z14.2)) (m_X10_sets z9.2 (eb_lshr (eb_lshl z11 x12) x12)) else (fun (z15 : Int32 × eb_St) => (z15.1, z15.2)) (m_X10_sets z9.2 z11))) (64 - (8 * x4))) (m_X10_take z9.2 x3.toInt32 x4))) (m_X10_lets σ x3.toInt32 x4 1 (σ.1 0 4)))) (m_X10_isMemory x3 x4) else (fun (z17 : Int32 × eb_St) => (z17.1, z17.2)) (m_X10_fault σ 4 x3))) (1 <<< (((σ.1 0 41) &&& 3) &&& 31))) (z2 + (((σ.1 0 37) >>> (20 &&& 31)).toInt64))) (m_X10_x σ (σ.1 0 39))) = mm := hm
  refine lv_aload_n hx hb dX10_loads_0 rfl (lv_at hl 0 rfl) ?_
  refine eb_get (T := TX10) X hw 0 41 (by decide) ⟨rfl, rfl, rfl⟩ (by decide) (fun _ h => List.mem_cons_of_mem _ (inlX10 _ h)) (List.mem_cons_of_mem _ wi_30_10) (v := .int (σ.1 0 41)) rfl dX10_loads_1 ?_
  refine lv_bipush (v := 7) hx hb dX10_loads_4 (by decide) ?_
  refine lv_icmp_ne (tgt := 14) hx hb dX10_loads_6 (by decide) (fun h1 => ?_) (fun h1 => ?_)
  · have hm := (if_neg h1).symm.trans hm
    refine lv_aload_n hx hb dX10_loads_14 rfl (lv_at hl 0 rfl) ?_
    refine lv_aload_n hx hb dX10_loads_15 rfl (lv_at hl 0 rfl) ?_
    refine eb_get (T := TX10) X hw 0 39 (by decide) ⟨rfl, rfl, rfl⟩ (by decide) (fun _ h => List.mem_cons_of_mem _ (inlX10 _ h)) (List.mem_cons_of_mem _ wi_30_11) (v := .int (σ.1 0 39)) rfl dX10_loads_16 ?_
    obtain ⟨z2, qz2⟩ : ∃ t : Int64, t = m_X10_x σ (σ.1 0 39) := ⟨_, rfl⟩
    have hm : (fun (x3 : Int64) => (fun (x4 : Int32) => (if (x3 &&& ((x4 - 1).toInt64)) = 0 then (fun (z6 : Bool) => (if (eb_b z6) = 0 then (fun (z8 : Int32 × eb_St) => (z8.1, z8.2)) (m_X10_fault σ 5 x3) else (fun (z9 : Bool × eb_St) => (if (eb_b z9.1) = 0 then (fun (z16 : Int32 × eb_St) => (z16.1, z16.2)) (m_X10_fault z9.2 5 x3) else (fun (z11 : Int64) => (fun (x12 : Int32) => (if (z9.2.1 0 41) ≤ 3 then (fun (z14 : Int32 × eb_St) => (z14.1, z14.2)) (m_X10_sets z9.2 (eb_lshr (eb_lshl z11 x12) x12)) else (fun (z15 : Int32 × eb_St) => (z15.1, z15.2)) (m_X10_sets z9.2 z11))) (64 - (8 * x4))) (m_X10_take z9.2 x3.toInt32 x4))) (m_X10_lets σ x3.toInt32 x4 1 (σ.1 0 4)))) (m_X10_isMemory x3 x4) else (fun (z17 : Int32 × eb_St) => (z17.1, z17.2)) (m_X10_fault σ 4 x3))) (1 <<< (((σ.1 0 41) &&& 3) &&& 31))) (z2 + (((σ.1 0 37) >>> (20 &&& 31)).toInt64)) = mm := by rw [qz2]; exact hm
    have hc : eb_M l yX10_x (Cond.code yX10_x cX10_x 2 (some .long) :: wsL_law) 1 20 D 18 cy rL ad σ [.ref (ad 0), .int (σ.1 0 39)] (some (.long z2)) σ := by rw [qz2]; exact c_X10_x l D cy ad σ (σ.1 0 39) hj_ hj_.2.2.2.1
    refine eb_callV (n := 1) (as := [.int (σ.1 0 39)]) (rest := []) X hw hl.1 0 hc (by decide) ⟨rfl, rfl, rfl⟩ (eb_goodV wi_33_4 wi_33_5 wi_33_6 wi_1_5 wi_33_7) rfl (by decide +kernel) ⟨by decide, by decide⟩ rfl rfl (Nat.le_of_ble_eq_true rfl) dX10_loads_19 ⟨by decide, by decide⟩ (st' := [.long z2]) rfl (fun H locs hw => ?_)
    refine lv_aload_n hx hb dX10_loads_22 rfl (lv_at hl 0 rfl) ?_
    refine eb_get (T := TX10) X hw 0 37 (by decide) ⟨rfl, rfl, rfl⟩ (by decide) (fun _ h => List.mem_cons_of_mem _ (inlX10 _ h)) (List.mem_cons_of_mem _ wi_30_8) (v := .int (σ.1 0 37)) rfl dX10_loads_23 ?_
    refine lv_bipush (v := 20) hx hb dX10_loads_26 (by decide) ?_
    refine lv_ishr hx hb dX10_loads_28 ?_
    refine lv_i2l (v := ((σ.1 0 37) >>> (20 &&& 31)).toInt64) hx hb dX10_loads_29 rfl ?_
    refine lv_ladd hx hb dX10_loads_30 ?_
    refine lv_topl (fun x3 ex3 => ?_)
    have hm : (fun (x4 : Int32) => (if (x3 &&& ((x4 - 1).toInt64)) = 0 then (fun (z6 : Bool) => (if (eb_b z6) = 0 then (fun (z8 : Int32 × eb_St) => (z8.1, z8.2)) (m_X10_fault σ 5 x3) else (fun (z9 : Bool × eb_St) => (if (eb_b z9.1) = 0 then (fun (z16 : Int32 × eb_St) => (z16.1, z16.2)) (m_X10_fault z9.2 5 x3) else (fun (z11 : Int64) => (fun (x12 : Int32) => (if (z9.2.1 0 41) ≤ 3 then (fun (z14 : Int32 × eb_St) => (z14.1, z14.2)) (m_X10_sets z9.2 (eb_lshr (eb_lshl z11 x12) x12)) else (fun (z15 : Int32 × eb_St) => (z15.1, z15.2)) (m_X10_sets z9.2 z11))) (64 - (8 * x4))) (m_X10_take z9.2 x3.toInt32 x4))) (m_X10_lets σ x3.toInt32 x4 1 (σ.1 0 4)))) (m_X10_isMemory x3 x4) else (fun (z17 : Int32 × eb_St) => (z17.1, z17.2)) (m_X10_fault σ 4 x3))) (1 <<< (((σ.1 0 41) &&& 3) &&& 31)) = mm := by rw [ex3]; exact hm
    refine lv_lstore_n (lv' := [(1, .long x3), (0, .ref (ad 0))]) hx hb dX10_loads_31 rfl hl (by decide) rfl (fun ls hl => ?_)
    refine lv_iconst (v := 1) hx hb dX10_loads_32 (by decide) ?_
    refine lv_aload_n hx hb dX10_loads_33 rfl (lv_at hl 1 rfl) ?_
    refine eb_get (T := TX10) X hw 0 41 (by decide) ⟨rfl, rfl, rfl⟩ (by decide) (fun _ h => List.mem_cons_of_mem _ (inlX10 _ h)) (List.mem_cons_of_mem _ wi_30_10) (v := .int (σ.1 0 41)) rfl dX10_loads_34 ?_
    refine lv_iconst (v := 3) hx hb dX10_loads_37 (by decide) ?_
    refine lv_iand hx hb dX10_loads_38 ?_
    refine lv_ishl hx hb dX10_loads_39 ?_
    refine lv_topi (fun x4 ex4 => ?_)
    have hm : (if (x3 &&& ((x4 - 1).toInt64)) = 0 then (fun (z6 : Bool) => (if (eb_b z6) = 0 then (fun (z8 : Int32 × eb_St) => (z8.1, z8.2)) (m_X10_fault σ 5 x3) else (fun (z9 : Bool × eb_St) => (if (eb_b z9.1) = 0 then (fun (z16 : Int32 × eb_St) => (z16.1, z16.2)) (m_X10_fault z9.2 5 x3) else (fun (z11 : Int64) => (fun (x12 : Int32) => (if (z9.2.1 0 41) ≤ 3 then (fun (z14 : Int32 × eb_St) => (z14.1, z14.2)) (m_X10_sets z9.2 (eb_lshr (eb_lshl z11 x12) x12)) else (fun (z15 : Int32 × eb_St) => (z15.1, z15.2)) (m_X10_sets z9.2 z11))) (64 - (8 * x4))) (m_X10_take z9.2 x3.toInt32 x4))) (m_X10_lets σ x3.toInt32 x4 1 (σ.1 0 4)))) (m_X10_isMemory x3 x4) else (fun (z17 : Int32 × eb_St) => (z17.1, z17.2)) (m_X10_fault σ 4 x3)) = mm := by rw [ex4]; exact hm
    refine lv_istore_n (lv' := [(3, .int x4), (1, .long x3), (0, .ref (ad 0))]) hx hb dX10_loads_40 rfl hl (by decide) rfl (fun ls hl => ?_)
    refine lv_lload_n hx hb dX10_loads_41 rfl (lv_at hl 1 rfl) ?_
    refine lv_iload_n hx hb dX10_loads_42 rfl (lv_at hl 0 rfl) ?_
    refine lv_iconst (v := 1) hx hb dX10_loads_43 (by decide) ?_
    refine lv_isub hx hb dX10_loads_44 ?_
    refine lv_i2l (v := (x4 - 1).toInt64) hx hb dX10_loads_45 rfl ?_
    refine lv_land hx hb dX10_loads_46 ?_
    refine lv_lconst (v := 0) hx hb dX10_loads_47 (by decide) ?_
    refine eb_lif_eq (tgt := 59) hx hb dX10_loads_48 dX10_loads_49 (by decide) (fun h5 => ?_) (fun h5 => ?_)
    · have hm := (if_pos h5).symm.trans hm
      refine lv_lload_n hx hb dX10_loads_59 rfl (lv_at hl 1 rfl) ?_
      refine lv_iload_n hx hb dX10_loads_60 rfl (lv_at hl 0 rfl) ?_
      obtain ⟨z6, qz6⟩ : ∃ t : Bool, t = m_X10_isMemory x3 x4 := ⟨_, rfl⟩
      have hm : (if (eb_b z6) = 0 then (fun (z8 : Int32 × eb_St) => (z8.1, z8.2)) (m_X10_fault σ 5 x3) else (fun (z9 : Bool × eb_St) => (if (eb_b z9.1) = 0 then (fun (z16 : Int32 × eb_St) => (z16.1, z16.2)) (m_X10_fault z9.2 5 x3) else (fun (z11 : Int64) => (fun (x12 : Int32) => (if (z9.2.1 0 41) ≤ 3 then (fun (z14 : Int32 × eb_St) => (z14.1, z14.2)) (m_X10_sets z9.2 (eb_lshr (eb_lshl z11 x12) x12)) else (fun (z15 : Int32 × eb_St) => (z15.1, z15.2)) (m_X10_sets z9.2 z11))) (64 - (8 * x4))) (m_X10_take z9.2 x3.toInt32 x4))) (m_X10_lets σ x3.toInt32 x4 1 (σ.1 0 4))) = mm := by rw [qz6]; exact hm
      have hc : eb_M l yX10_isMemory (Cond.code yX10_isMemory cX10_isMemory 3 (some .boolean) :: wsL_law) 0 0 D 18 cy rL ad σ [.long x3, .int x4] (some (.int (eb_b z6))) σ := by rw [qz6]; exact c_X10_isMemory l D cy ad σ x3 x4
      refine eb_callS (n := 2) X hw hl.1 (rest := []) hc (eb_goodS wi_31_0 wi_31_1 wi_1_5 wi_31_2) rfl (by decide +kernel) ⟨by decide, by decide⟩ rfl rfl (Nat.le_of_ble_eq_true rfl) dX10_loads_61 ⟨by decide, by decide⟩ (st' := [.int (eb_b z6)]) rfl (fun H locs hw => ?_)
      refine lv_if_eq (tgt := 82) hx hb dX10_loads_64 (by decide) (fun h7 => ?_) (fun h7 => ?_)
      · have hm := (if_pos h7).symm.trans hm
        refine lv_aload_n hx hb dX10_loads_82 rfl (lv_at hl 2 rfl) ?_
        refine lv_iconst (v := 5) hx hb dX10_loads_83 (by decide) ?_
        refine lv_lload_n hx hb dX10_loads_84 rfl (lv_at hl 1 rfl) ?_
        obtain ⟨z8, qz8⟩ : ∃ t : Int32 × eb_St, t = m_X10_fault σ 5 x3 := ⟨_, rfl⟩
        have hm : (z8.1, z8.2) = mm := by rw [qz8]; exact hm
        have jz8 : rJ z8.2 := J_X10_fault qz8.symm hj_
        have hc : eb_M l yX10_fault (Cond.code yX10_fault cX10_fault 4 (some .int) :: wsL_law) 0 0 D 18 cy rL ad σ [.ref (ad 0), .int 5, .long x3] (some (.int z8.1)) z8.2 := by rw [qz8]; exact c_X10_fault l D cy ad σ 5 x3 hj_
        refine eb_callV (n := 2) (as := [.int 5, .long x3]) (rest := []) X hw hl.1 0 hc (by decide) ⟨rfl, rfl, rfl⟩ (eb_goodV wi_30_20 wi_30_21 wi_30_22 wi_1_5 wi_30_23) rfl (by decide +kernel) ⟨by decide, by decide⟩ rfl rfl (Nat.le_of_ble_eq_true rfl) dX10_loads_85 ⟨by decide, by decide⟩ (st' := [.int z8.1]) rfl (fun H locs hw => ?_)
        subst hm
        exact eb_iret X hw rfl rfl rfl dX10_loads_88
      · have hm := (if_neg h7).symm.trans hm
        refine lv_aload_n hx hb dX10_loads_67 rfl (lv_at hl 2 rfl) ?_
        refine lv_lload_n hx hb dX10_loads_68 rfl (lv_at hl 1 rfl) ?_
        refine lv_l2i (v := x3.toInt32) hx hb dX10_loads_69 rfl ?_
        refine lv_iload_n hx hb dX10_loads_70 rfl (lv_at hl 0 rfl) ?_
        refine lv_iconst (v := 1) hx hb dX10_loads_71 (by decide) ?_
        refine lv_aload_n hx hb dX10_loads_72 rfl (lv_at hl 2 rfl) ?_
        refine eb_get (T := TX10) X hw 0 4 (by decide) ⟨rfl, rfl, rfl⟩ (by decide) (fun _ h => List.mem_cons_of_mem _ (inlX10 _ h)) (List.mem_cons_of_mem _ wi_5_11) (v := .int (σ.1 0 4)) rfl dX10_loads_73 ?_
        obtain ⟨z9, qz9⟩ : ∃ t : Bool × eb_St, t = m_X10_lets σ x3.toInt32 x4 1 (σ.1 0 4) := ⟨_, rfl⟩
        have hm : (if (eb_b z9.1) = 0 then (fun (z16 : Int32 × eb_St) => (z16.1, z16.2)) (m_X10_fault z9.2 5 x3) else (fun (z11 : Int64) => (fun (x12 : Int32) => (if (z9.2.1 0 41) ≤ 3 then (fun (z14 : Int32 × eb_St) => (z14.1, z14.2)) (m_X10_sets z9.2 (eb_lshr (eb_lshl z11 x12) x12)) else (fun (z15 : Int32 × eb_St) => (z15.1, z15.2)) (m_X10_sets z9.2 z11))) (64 - (8 * x4))) (m_X10_take z9.2 x3.toInt32 x4)) = mm := by rw [qz9]; exact hm
        have jz9 : rJ z9.2 := J_X10_lets qz9.symm hj_ hj_.2.2.2.2.2.1
        have hc : eb_M l yX10_lets (Cond.code yX10_lets cX10_lets 7 (some .boolean) :: wsL_law) 4 92 D 18 cy rL ad σ [.ref (ad 0), .int x3.toInt32, .int x4, .int 1, .int (σ.1 0 4)] (some (.int (eb_b z9.1))) z9.2 := by rw [qz9]; exact c_X10_lets l D cy ad σ x3.toInt32 x4 1 (σ.1 0 4) hj_ hj_.2.2.2.2.2.1
        refine eb_callV (n := 4) (as := [.int x3.toInt32, .int x4, .int 1, .int (σ.1 0 4)]) (rest := []) X hw hl.1 0 hc (by decide) ⟨rfl, rfl, rfl⟩ (eb_goodV wi_31_3 wi_31_4 wi_31_5 wi_1_5 wi_31_6) rfl (by decide +kernel) ⟨by decide, by decide⟩ rfl rfl (Nat.le_of_ble_eq_true rfl) dX10_loads_76 ⟨by decide, by decide⟩ (st' := [.int (eb_b z9.1)]) rfl (fun H locs hw => ?_)
        refine lv_if_ne (tgt := 89) hx hb dX10_loads_79 (by decide) (fun h10 => ?_) (fun h10 => ?_)
        · have hm := (if_neg h10).symm.trans hm
          refine lv_aload_n hx hb dX10_loads_89 rfl (lv_at hl 2 rfl) ?_
          refine lv_lload_n hx hb dX10_loads_90 rfl (lv_at hl 1 rfl) ?_
          refine lv_l2i (v := x3.toInt32) hx hb dX10_loads_91 rfl ?_
          refine lv_iload_n hx hb dX10_loads_92 rfl (lv_at hl 0 rfl) ?_
          obtain ⟨z11, qz11⟩ : ∃ t : Int64, t = m_X10_take z9.2 x3.toInt32 x4 := ⟨_, rfl⟩
          have hm : (fun (x12 : Int32) => (if (z9.2.1 0 41) ≤ 3 then (fun (z14 : Int32 × eb_St) => (z14.1, z14.2)) (m_X10_sets z9.2 (eb_lshr (eb_lshl z11 x12) x12)) else (fun (z15 : Int32 × eb_St) => (z15.1, z15.2)) (m_X10_sets z9.2 z11))) (64 - (8 * x4)) = mm := by rw [qz11]; exact hm
          have hc : eb_M l yX10_take (Cond.code yX10_take cX10_take 6 (some .long) :: wsL_law) 0 0 D 18 cy rL ad z9.2 [.ref (ad 0), .int x3.toInt32, .int x4] (some (.long z11)) z9.2 := by rw [qz11]; exact c_X10_take l D cy ad z9.2 x3.toInt32 x4 (l_X10_isMemory (show m_X10_isMemory _ _ = true from by rw [← qz6]; exact eb_b_n0 h7) (show 0 ≤ x4.toInt ∧ x4.toInt ≤ 65536 from (by rw [ex4]; exact eb_sz3 _)).1 (show 0 ≤ x4.toInt ∧ x4.toInt ≤ 65536 from (by rw [ex4]; exact eb_sz3 _)).2).1 (l_X10_isMemory (show m_X10_isMemory _ _ = true from by rw [← qz6]; exact eb_b_n0 h7) (show 0 ≤ x4.toInt ∧ x4.toInt ≤ 65536 from (by rw [ex4]; exact eb_sz3 _)).1 (show 0 ≤ x4.toInt ∧ x4.toInt ≤ 65536 from (by rw [ex4]; exact eb_sz3 _)).2).2 (show 0 ≤ x4.toInt ∧ x4.toInt ≤ 65536 from (by rw [ex4]; exact eb_sz3 _)).1
          refine eb_callV (n := 2) (as := [.int x3.toInt32, .int x4]) (rest := []) X hw hl.1 0 hc (by decide) ⟨rfl, rfl, rfl⟩ (eb_goodV wi_12_0 wi_12_1 wi_12_2 wi_1_5 wi_12_3) rfl (by decide +kernel) ⟨by decide, by decide⟩ rfl rfl (Nat.le_of_ble_eq_true rfl) dX10_loads_93 ⟨by decide, by decide⟩ (st' := [.long z11]) rfl (fun H locs hw => ?_)
          refine lv_lstore (lv' := [(4, .long z11), (3, .int x4), (1, .long x3), (0, .ref (ad 0))]) hx hb dX10_loads_96 hl (by decide) rfl (fun ls hl => ?_)
          refine lv_bipush (v := 64) hx hb dX10_loads_98 (by decide) ?_
          refine lv_bipush (v := 8) hx hb dX10_loads_100 (by decide) ?_
          refine lv_iload_n hx hb dX10_loads_102 rfl (lv_at hl 1 rfl) ?_
          refine lv_imul hx hb dX10_loads_103 ?_
          refine lv_isub hx hb dX10_loads_104 ?_
          refine lv_topi (fun x12 ex12 => ?_)
          have hm : (if (z9.2.1 0 41) ≤ 3 then (fun (z14 : Int32 × eb_St) => (z14.1, z14.2)) (m_X10_sets z9.2 (eb_lshr (eb_lshl z11 x12) x12)) else (fun (z15 : Int32 × eb_St) => (z15.1, z15.2)) (m_X10_sets z9.2 z11)) = mm := by rw [ex12]; exact hm
          refine lv_istore (lv' := [(6, .int x12), (4, .long z11), (3, .int x4), (1, .long x3), (0, .ref (ad 0))]) hx hb dX10_loads_105 hl (by decide) rfl (fun ls hl => ?_)
          refine lv_aload_n hx hb dX10_loads_107 rfl (lv_at hl 4 rfl) ?_
          refine lv_aload_n hx hb dX10_loads_108 rfl (lv_at hl 4 rfl) ?_
          refine eb_get (T := TX10) X hw 0 41 (by decide) ⟨rfl, rfl, rfl⟩ (by decide) (fun _ h => List.mem_cons_of_mem _ (inlX10 _ h)) (List.mem_cons_of_mem _ wi_30_10) (v := .int (z9.2.1 0 41)) rfl dX10_loads_109 ?_
          refine lv_iconst (v := 3) hx hb dX10_loads_112 (by decide) ?_
          refine lv_icmp_le (tgt := 121) hx hb dX10_loads_113 (by decide) (fun h13 => ?_) (fun h13 => ?_)
          · have hm := (if_pos h13).symm.trans hm
            refine lv_lload hx hb dX10_loads_121 (lv_at hl 1 rfl) ?_
            refine lv_iload hx hb dX10_loads_123 (lv_at hl 0 rfl) ?_
            refine lv_lshl (v := eb_lshl z11 x12) hx hb dX10_loads_125 rfl ?_
            refine lv_iload hx hb dX10_loads_126 (lv_at hl 0 rfl) ?_
            refine lv_lshr (v := eb_lshr (eb_lshl z11 x12) x12) hx hb dX10_loads_128 rfl ?_
            obtain ⟨z14, qz14⟩ : ∃ t : Int32 × eb_St, t = m_X10_sets z9.2 (eb_lshr (eb_lshl z11 x12) x12) := ⟨_, rfl⟩
            have hm : (z14.1, z14.2) = mm := by rw [qz14]; exact hm
            have jz14 : rJ z14.2 := J_X10_sets qz14.symm jz9
            have hc : eb_M l yX10_sets (Cond.code yX10_sets cX10_sets 3 (some .int) :: wsL_law) 2 43 D 18 cy rL ad z9.2 [.ref (ad 0), .long (eb_lshr (eb_lshl z11 x12) x12)] (some (.int z14.1)) z14.2 := by rw [qz14]; exact c_X10_sets l D cy ad z9.2 (eb_lshr (eb_lshl z11 x12) x12) jz9
            refine eb_callV (n := 1) (as := [.long (eb_lshr (eb_lshl z11 x12) x12)]) (rest := []) X hw hl.1 0 hc (by decide) ⟨rfl, rfl, rfl⟩ (eb_goodV wi_32_2 wi_32_3 wi_32_4 wi_1_5 wi_32_5) rfl (by decide +kernel) ⟨by decide, by decide⟩ rfl rfl (Nat.le_of_ble_eq_true rfl) dX10_loads_129 ⟨by decide, by decide⟩ (st' := [.int z14.1]) rfl (fun H locs hw => ?_)
            subst hm
            exact eb_iret X hw rfl rfl rfl dX10_loads_132
          · have hm := (if_neg h13).symm.trans hm
            refine lv_lload hx hb dX10_loads_116 (lv_at hl 1 rfl) ?_
            refine lv_goto (tgt := 129) hx hb dX10_loads_118 (by decide) ?_
            obtain ⟨z15, qz15⟩ : ∃ t : Int32 × eb_St, t = m_X10_sets z9.2 z11 := ⟨_, rfl⟩
            have hm : (z15.1, z15.2) = mm := by rw [qz15]; exact hm
            have jz15 : rJ z15.2 := J_X10_sets qz15.symm jz9
            have hc : eb_M l yX10_sets (Cond.code yX10_sets cX10_sets 3 (some .int) :: wsL_law) 2 43 D 18 cy rL ad z9.2 [.ref (ad 0), .long z11] (some (.int z15.1)) z15.2 := by rw [qz15]; exact c_X10_sets l D cy ad z9.2 z11 jz9
            refine eb_callV (n := 1) (as := [.long z11]) (rest := []) X hw hl.1 0 hc (by decide) ⟨rfl, rfl, rfl⟩ (eb_goodV wi_32_2 wi_32_3 wi_32_4 wi_1_5 wi_32_5) rfl (by decide +kernel) ⟨by decide, by decide⟩ rfl rfl (Nat.le_of_ble_eq_true rfl) dX10_loads_129 ⟨by decide, by decide⟩ (st' := [.int z15.1]) rfl (fun H locs hw => ?_)
            subst hm
            exact eb_iret X hw rfl rfl rfl dX10_loads_132
        · have hm := (if_pos h10).symm.trans hm
          refine lv_aload_n hx hb dX10_loads_82 rfl (lv_at hl 2 rfl) ?_
          refine lv_iconst (v := 5) hx hb dX10_loads_83 (by decide) ?_
          refine lv_lload_n hx hb dX10_loads_84 rfl (lv_at hl 1 rfl) ?_
          obtain ⟨z16, qz16⟩ : ∃ t : Int32 × eb_St, t = m_X10_fault z9.2 5 x3 := ⟨_, rfl⟩
          have hm : (z16.1, z16.2) = mm := by rw [qz16]; exact hm
          have jz16 : rJ z16.2 := J_X10_fault qz16.symm jz9
          have hc : eb_M l yX10_fault (Cond.code yX10_fault cX10_fault 4 (some .int) :: wsL_law) 0 0 D 18 cy rL ad z9.2 [.ref (ad 0), .int 5, .long x3] (some (.int z16.1)) z16.2 := by rw [qz16]; exact c_X10_fault l D cy ad z9.2 5 x3 jz9
          refine eb_callV (n := 2) (as := [.int 5, .long x3]) (rest := []) X hw hl.1 0 hc (by decide) ⟨rfl, rfl, rfl⟩ (eb_goodV wi_30_20 wi_30_21 wi_30_22 wi_1_5 wi_30_23) rfl (by decide +kernel) ⟨by decide, by decide⟩ rfl rfl (Nat.le_of_ble_eq_true rfl) dX10_loads_85 ⟨by decide, by decide⟩ (st' := [.int z16.1]) rfl (fun H locs hw => ?_)
          subst hm
          exact eb_iret X hw rfl rfl rfl dX10_loads_88
    · have hm := (if_neg h5).symm.trans hm
      refine lv_aload_n hx hb dX10_loads_52 rfl (lv_at hl 2 rfl) ?_
      refine lv_iconst (v := 4) hx hb dX10_loads_53 (by decide) ?_
      refine lv_lload_n hx hb dX10_loads_54 rfl (lv_at hl 1 rfl) ?_
      obtain ⟨z17, qz17⟩ : ∃ t : Int32 × eb_St, t = m_X10_fault σ 4 x3 := ⟨_, rfl⟩
      have hm : (z17.1, z17.2) = mm := by rw [qz17]; exact hm
      have jz17 : rJ z17.2 := J_X10_fault qz17.symm hj_
      have hc : eb_M l yX10_fault (Cond.code yX10_fault cX10_fault 4 (some .int) :: wsL_law) 0 0 D 18 cy rL ad σ [.ref (ad 0), .int 4, .long x3] (some (.int z17.1)) z17.2 := by rw [qz17]; exact c_X10_fault l D cy ad σ 4 x3 hj_
      refine eb_callV (n := 2) (as := [.int 4, .long x3]) (rest := []) X hw hl.1 0 hc (by decide) ⟨rfl, rfl, rfl⟩ (eb_goodV wi_30_20 wi_30_21 wi_30_22 wi_1_5 wi_30_23) rfl (by decide +kernel) ⟨by decide, by decide⟩ rfl rfl (Nat.le_of_ble_eq_true rfl) dX10_loads_55 ⟨by decide, by decide⟩ (st' := [.int z17.1]) rfl (fun H locs hw => ?_)
      subst hm
      exact eb_iret X hw rfl rfl rfl dX10_loads_58
  · have hm := (if_pos h1).symm.trans hm
    refine lv_aload_n hx hb dX10_loads_9 rfl (lv_at hl 0 rfl) ?_
    obtain ⟨z18, qz18⟩ : ∃ t : Int32 × eb_St, t = m_X10_illegal σ := ⟨_, rfl⟩
    have hm : (z18.1, z18.2) = mm := by rw [qz18]; exact hm
    have jz18 : rJ z18.2 := J_X10_illegal qz18.symm hj_
    have hc : eb_M l yX10_illegal (Cond.code yX10_illegal cX10_illegal 1 (some .int) :: wsL_law) 1 23 D 18 cy rL ad σ [.ref (ad 0)] (some (.int z18.1)) z18.2 := by rw [qz18]; exact c_X10_illegal l D cy ad σ hj_
    refine eb_callV (n := 0) (as := []) (rest := []) X hw hl.1 0 hc (by decide) ⟨rfl, rfl, rfl⟩ (eb_goodV wi_32_23 wi_33_0 wi_33_1 wi_1_5 wi_33_2) rfl (by decide +kernel) ⟨by decide, by decide⟩ rfl rfl (Nat.le_of_ble_eq_true rfl) dX10_loads_10 ⟨by decide, by decide⟩ (st' := [.int z18.1]) rfl (fun H locs hw => ?_)
    subst hm
    exact eb_iret X hw rfl rfl rfl dX10_loads_13

theorem J_X10_stores {σ : eb_St}  {mm : Int32 × eb_St} (hm : m_X10_stores σ = mm) (hj_ : rJ σ) : rJ mm.2 := by
  have hm : (if (σ.1 0 41) ≤ 3 then (fun (z2 : Int64) => (fun (x3 : Int64) => (fun (x4 : Int32) => (if (x3 &&& ((x4 - 1).toInt64)) = 0 then (fun (z6 : Bool) => (if (eb_b z6) = 0 then (fun (z8 : Int32 × eb_St) => (z8.1, z8.2)) (m_X10_fault σ 7 x3) else (fun (z9 : Bool × eb_St) => (if (eb_b z9.1) = 0 then (fun (z14 : Int32 × eb_St) => (z14.1, z14.2)) (m_X10_fault z9.2 7 x3) else (fun (z11 : Int64) => (fun (z12 : eb_St) => (fun (z13 : Int32 × eb_St) => (z13.1, z13.2)) (m_X10_goesOn z12)) (m_X10_put z9.2 x3.toInt32 x4 z11)) (m_X10_x z9.2 (z9.2.1 0 40)))) (m_X10_lets σ x3.toInt32 x4 2 (σ.1 0 4)))) (m_X10_isMemory x3 x4) else (fun (z15 : Int32 × eb_St) => (z15.1, z15.2)) (m_X10_fault σ 6 x3))) (1 <<< ((σ.1 0 41) &&& 31))) (z2 + (((((σ.1 0 37) >>> (25 &&& 31)) <<< (5 &&& 31)) ||| (σ.1 0 38)).toInt64))) (m_X10_x σ (σ.1 0 39)) else (fun (z16 : Int32 × eb_St) => (z16.1, z16.2)) (m_X10_illegal σ)) = mm := hm
  refine eb_em (c := (σ.1 0 41) ≤ 3) (fun h1 => ?_) (fun h1 => ?_)
  · have hm := (if_pos h1).symm.trans hm
    obtain ⟨z2, qz2⟩ : ∃ t : Int64, t = m_X10_x σ (σ.1 0 39) := ⟨_, rfl⟩
    have hm : (fun (x3 : Int64) => (fun (x4 : Int32) => (if (x3 &&& ((x4 - 1).toInt64)) = 0 then (fun (z6 : Bool) => (if (eb_b z6) = 0 then (fun (z8 : Int32 × eb_St) => (z8.1, z8.2)) (m_X10_fault σ 7 x3) else (fun (z9 : Bool × eb_St) => (if (eb_b z9.1) = 0 then (fun (z14 : Int32 × eb_St) => (z14.1, z14.2)) (m_X10_fault z9.2 7 x3) else (fun (z11 : Int64) => (fun (z12 : eb_St) => (fun (z13 : Int32 × eb_St) => (z13.1, z13.2)) (m_X10_goesOn z12)) (m_X10_put z9.2 x3.toInt32 x4 z11)) (m_X10_x z9.2 (z9.2.1 0 40)))) (m_X10_lets σ x3.toInt32 x4 2 (σ.1 0 4)))) (m_X10_isMemory x3 x4) else (fun (z15 : Int32 × eb_St) => (z15.1, z15.2)) (m_X10_fault σ 6 x3))) (1 <<< ((σ.1 0 41) &&& 31))) (z2 + (((((σ.1 0 37) >>> (25 &&& 31)) <<< (5 &&& 31)) ||| (σ.1 0 38)).toInt64)) = mm := by rw [qz2]; exact hm
    obtain ⟨x3, ex3⟩ : ∃ z : Int64, z = z2 + (((((σ.1 0 37) >>> (25 &&& 31)) <<< (5 &&& 31)) ||| (σ.1 0 38)).toInt64) := ⟨_, rfl⟩
    have hm : (fun (x4 : Int32) => (if (x3 &&& ((x4 - 1).toInt64)) = 0 then (fun (z6 : Bool) => (if (eb_b z6) = 0 then (fun (z8 : Int32 × eb_St) => (z8.1, z8.2)) (m_X10_fault σ 7 x3) else (fun (z9 : Bool × eb_St) => (if (eb_b z9.1) = 0 then (fun (z14 : Int32 × eb_St) => (z14.1, z14.2)) (m_X10_fault z9.2 7 x3) else (fun (z11 : Int64) => (fun (z12 : eb_St) => (fun (z13 : Int32 × eb_St) => (z13.1, z13.2)) (m_X10_goesOn z12)) (m_X10_put z9.2 x3.toInt32 x4 z11)) (m_X10_x z9.2 (z9.2.1 0 40)))) (m_X10_lets σ x3.toInt32 x4 2 (σ.1 0 4)))) (m_X10_isMemory x3 x4) else (fun (z15 : Int32 × eb_St) => (z15.1, z15.2)) (m_X10_fault σ 6 x3))) (1 <<< ((σ.1 0 41) &&& 31)) = mm := by rw [ex3]; exact hm
    obtain ⟨x4, ex4⟩ : ∃ z : Int32, z = 1 <<< ((σ.1 0 41) &&& 31) := ⟨_, rfl⟩
    have hm : (if (x3 &&& ((x4 - 1).toInt64)) = 0 then (fun (z6 : Bool) => (if (eb_b z6) = 0 then (fun (z8 : Int32 × eb_St) => (z8.1, z8.2)) (m_X10_fault σ 7 x3) else (fun (z9 : Bool × eb_St) => (if (eb_b z9.1) = 0 then (fun (z14 : Int32 × eb_St) => (z14.1, z14.2)) (m_X10_fault z9.2 7 x3) else (fun (z11 : Int64) => (fun (z12 : eb_St) => (fun (z13 : Int32 × eb_St) => (z13.1, z13.2)) (m_X10_goesOn z12)) (m_X10_put z9.2 x3.toInt32 x4 z11)) (m_X10_x z9.2 (z9.2.1 0 40)))) (m_X10_lets σ x3.toInt32 x4 2 (σ.1 0 4)))) (m_X10_isMemory x3 x4) else (fun (z15 : Int32 × eb_St) => (z15.1, z15.2)) (m_X10_fault σ 6 x3)) = mm := by rw [ex4]; exact hm
    refine eb_em (c := (x3 &&& ((x4 - 1).toInt64)) = 0) (fun h5 => ?_) (fun h5 => ?_)
    · have hm := (if_pos h5).symm.trans hm
      obtain ⟨z6, qz6⟩ : ∃ t : Bool, t = m_X10_isMemory x3 x4 := ⟨_, rfl⟩
      have hm : (if (eb_b z6) = 0 then (fun (z8 : Int32 × eb_St) => (z8.1, z8.2)) (m_X10_fault σ 7 x3) else (fun (z9 : Bool × eb_St) => (if (eb_b z9.1) = 0 then (fun (z14 : Int32 × eb_St) => (z14.1, z14.2)) (m_X10_fault z9.2 7 x3) else (fun (z11 : Int64) => (fun (z12 : eb_St) => (fun (z13 : Int32 × eb_St) => (z13.1, z13.2)) (m_X10_goesOn z12)) (m_X10_put z9.2 x3.toInt32 x4 z11)) (m_X10_x z9.2 (z9.2.1 0 40)))) (m_X10_lets σ x3.toInt32 x4 2 (σ.1 0 4))) = mm := by rw [qz6]; exact hm
      refine eb_em (c := (eb_b z6) = 0) (fun h7 => ?_) (fun h7 => ?_)
      · have hm := (if_pos h7).symm.trans hm
        obtain ⟨z8, qz8⟩ : ∃ t : Int32 × eb_St, t = m_X10_fault σ 7 x3 := ⟨_, rfl⟩
        have hm : (z8.1, z8.2) = mm := by rw [qz8]; exact hm
        have jz8 : rJ z8.2 := J_X10_fault qz8.symm hj_
        subst hm
        exact jz8
      · have hm := (if_neg h7).symm.trans hm
        obtain ⟨z9, qz9⟩ : ∃ t : Bool × eb_St, t = m_X10_lets σ x3.toInt32 x4 2 (σ.1 0 4) := ⟨_, rfl⟩
        have hm : (if (eb_b z9.1) = 0 then (fun (z14 : Int32 × eb_St) => (z14.1, z14.2)) (m_X10_fault z9.2 7 x3) else (fun (z11 : Int64) => (fun (z12 : eb_St) => (fun (z13 : Int32 × eb_St) => (z13.1, z13.2)) (m_X10_goesOn z12)) (m_X10_put z9.2 x3.toInt32 x4 z11)) (m_X10_x z9.2 (z9.2.1 0 40))) = mm := by rw [qz9]; exact hm
        have jz9 : rJ z9.2 := J_X10_lets qz9.symm hj_ hj_.2.2.2.2.2.1
        refine eb_emn (c := (eb_b z9.1) = 0) (fun h10 => ?_) (fun h10 => ?_)
        · have hm := (if_neg h10).symm.trans hm
          obtain ⟨z11, qz11⟩ : ∃ t : Int64, t = m_X10_x z9.2 (z9.2.1 0 40) := ⟨_, rfl⟩
          have hm : (fun (z12 : eb_St) => (fun (z13 : Int32 × eb_St) => (z13.1, z13.2)) (m_X10_goesOn z12)) (m_X10_put z9.2 x3.toInt32 x4 z11) = mm := by rw [qz11]; exact hm
          obtain ⟨z12, qz12⟩ : ∃ t : eb_St, t = m_X10_put z9.2 x3.toInt32 x4 z11 := ⟨_, rfl⟩
          have hm : (fun (z13 : Int32 × eb_St) => (z13.1, z13.2)) (m_X10_goesOn z12) = mm := by rw [qz12]; exact hm
          have jz12 : rJ z12 := J_X10_put qz12.symm jz9 (l_X10_isMemory (show m_X10_isMemory _ _ = true from by rw [← qz6]; exact eb_b_n0 h7) (show 0 ≤ x4.toInt ∧ x4.toInt ≤ 65536 from (by rw [ex4]; exact eb_sz3s hj_.2.2.2.2.2.2.1 (eb_nlt_of_le h1))).1 (show 0 ≤ x4.toInt ∧ x4.toInt ≤ 65536 from (by rw [ex4]; exact eb_sz3s hj_.2.2.2.2.2.2.1 (eb_nlt_of_le h1))).2).1 (l_X10_isMemory (show m_X10_isMemory _ _ = true from by rw [← qz6]; exact eb_b_n0 h7) (show 0 ≤ x4.toInt ∧ x4.toInt ≤ 65536 from (by rw [ex4]; exact eb_sz3s hj_.2.2.2.2.2.2.1 (eb_nlt_of_le h1))).1 (show 0 ≤ x4.toInt ∧ x4.toInt ≤ 65536 from (by rw [ex4]; exact eb_sz3s hj_.2.2.2.2.2.2.1 (eb_nlt_of_le h1))).2).2
          obtain ⟨z13, qz13⟩ : ∃ t : Int32 × eb_St, t = m_X10_goesOn z12 := ⟨_, rfl⟩
          have hm : (z13.1, z13.2) = mm := by rw [qz13]; exact hm
          have jz13 : rJ z13.2 := J_X10_goesOn qz13.symm jz12
          subst hm
          exact jz13
        · have hm := (if_pos h10).symm.trans hm
          obtain ⟨z14, qz14⟩ : ∃ t : Int32 × eb_St, t = m_X10_fault z9.2 7 x3 := ⟨_, rfl⟩
          have hm : (z14.1, z14.2) = mm := by rw [qz14]; exact hm
          have jz14 : rJ z14.2 := J_X10_fault qz14.symm jz9
          subst hm
          exact jz14
    · have hm := (if_neg h5).symm.trans hm
      obtain ⟨z15, qz15⟩ : ∃ t : Int32 × eb_St, t = m_X10_fault σ 6 x3 := ⟨_, rfl⟩
      have hm : (z15.1, z15.2) = mm := by rw [qz15]; exact hm
      have jz15 : rJ z15.2 := J_X10_fault qz15.symm hj_
      subst hm
      exact jz15
  · have hm := (if_neg h1).symm.trans hm
    obtain ⟨z16, qz16⟩ : ∃ t : Int32 × eb_St, t = m_X10_illegal σ := ⟨_, rfl⟩
    have hm : (z16.1, z16.2) = mm := by rw [qz16]; exact hm
    have jz16 : rJ z16.2 := J_X10_illegal qz16.symm hj_
    subst hm
    exact jz16
set_option maxHeartbeats 4000000 in
set_option maxRecDepth 100000 in
theorem c_X10_stores (l : Launch) (D : va_G) (cy : Nat → ClassId) (ad : Nat → Nat) (σ : eb_St)  (hj_ : rJ σ) : eb_M l yX10_stores (Cond.code yX10_stores cX10_stores 4 (some .int) :: wsL_law) 5 118 D 18 cy rL ad σ [.ref (ad 0)] (some (.int (m_X10_stores σ).1)) ((m_X10_stores σ).2) := by
  refine eb_start (own := RX10) (by decide) rfl rfl (Nat.le_of_ble_eq_true rfl) ?_
  intro p e s m args below meth c A ls X hw hl
  have hl : lv_has ls 4 [(0, .ref (ad 0))] := hl
  have hx := X.1.1
  have hb := X.1.2.1
  have hown := X.1.2.2.2.1
  have hts := X.1.2.2.2.2
  generalize hm : m_X10_stores σ = mm
  have hm : (if (σ.1 0 41) ≤ 3 then (fun (z2 : Int64) => (fun (x3 : Int64) => (fun (x4 : Int32) => (if (x3 &&& ((x4 - 1).toInt64)) = 0 then (fun (z6 : Bool) => (if (eb_b z6) = 0 then (fun (z8 : Int32 × eb_St) => (z8.1, z8.2)) (m_X10_fault σ 7 x3) else (fun (z9 : Bool × eb_St) => (if (eb_b z9.1) = 0 then (fun (z14 : Int32 × eb_St) => (z14.1, z14.2)) (m_X10_fault z9.2 7 x3) else (fun (z11 : Int64) => (fun (z12 : eb_St) => (fun (z13 : Int32 × eb_St) => (z13.1, z13.2)) (m_X10_goesOn z12)) (m_X10_put z9.2 x3.toInt32 x4 z11)) (m_X10_x z9.2 (z9.2.1 0 40)))) (m_X10_lets σ x3.toInt32 x4 2 (σ.1 0 4)))) (m_X10_isMemory x3 x4) else (fun (z15 : Int32 × eb_St) => (z15.1, z15.2)) (m_X10_fault σ 6 x3))) (1 <<< ((σ.1 0 41) &&& 31))) (z2 + (((((σ.1 0 37) >>> (25 &&& 31)) <<< (5 &&& 31)) ||| (σ.1 0 38)).toInt64))) (m_X10_x σ (σ.1 0 39)) else (fun (z16 : Int32 × eb_St) => (z16.1, z16.2)) (m_X10_illegal σ)) = mm := hm
  refine lv_aload_n hx hb dX10_stores_0 rfl (lv_at hl 0 rfl) ?_
  refine eb_get (T := TX10) X hw 0 41 (by decide) ⟨rfl, rfl, rfl⟩ (by decide) (fun _ h => List.mem_cons_of_mem _ (inlX10 _ h)) (List.mem_cons_of_mem _ wi_30_10) (v := .int (σ.1 0 41)) rfl dX10_stores_1 ?_
  refine lv_iconst (v := 3) hx hb dX10_stores_4 (by decide) ?_
  refine lv_icmp_le (tgt := 13) hx hb dX10_stores_5 (by decide) (fun h1 => ?_) (fun h1 => ?_)
  · have hm := (if_pos h1).symm.trans hm
    refine lv_aload_n hx hb dX10_stores_13 rfl (lv_at hl 0 rfl) ?_
    refine lv_aload_n hx hb dX10_stores_14 rfl (lv_at hl 0 rfl) ?_
    refine eb_get (T := TX10) X hw 0 39 (by decide) ⟨rfl, rfl, rfl⟩ (by decide) (fun _ h => List.mem_cons_of_mem _ (inlX10 _ h)) (List.mem_cons_of_mem _ wi_30_11) (v := .int (σ.1 0 39)) rfl dX10_stores_15 ?_
    obtain ⟨z2, qz2⟩ : ∃ t : Int64, t = m_X10_x σ (σ.1 0 39) := ⟨_, rfl⟩
    have hm : (fun (x3 : Int64) => (fun (x4 : Int32) => (if (x3 &&& ((x4 - 1).toInt64)) = 0 then (fun (z6 : Bool) => (if (eb_b z6) = 0 then (fun (z8 : Int32 × eb_St) => (z8.1, z8.2)) (m_X10_fault σ 7 x3) else (fun (z9 : Bool × eb_St) => (if (eb_b z9.1) = 0 then (fun (z14 : Int32 × eb_St) => (z14.1, z14.2)) (m_X10_fault z9.2 7 x3) else (fun (z11 : Int64) => (fun (z12 : eb_St) => (fun (z13 : Int32 × eb_St) => (z13.1, z13.2)) (m_X10_goesOn z12)) (m_X10_put z9.2 x3.toInt32 x4 z11)) (m_X10_x z9.2 (z9.2.1 0 40)))) (m_X10_lets σ x3.toInt32 x4 2 (σ.1 0 4)))) (m_X10_isMemory x3 x4) else (fun (z15 : Int32 × eb_St) => (z15.1, z15.2)) (m_X10_fault σ 6 x3))) (1 <<< ((σ.1 0 41) &&& 31))) (z2 + (((((σ.1 0 37) >>> (25 &&& 31)) <<< (5 &&& 31)) ||| (σ.1 0 38)).toInt64)) = mm := by rw [qz2]; exact hm
    have hc : eb_M l yX10_x (Cond.code yX10_x cX10_x 2 (some .long) :: wsL_law) 1 20 D 18 cy rL ad σ [.ref (ad 0), .int (σ.1 0 39)] (some (.long z2)) σ := by rw [qz2]; exact c_X10_x l D cy ad σ (σ.1 0 39) hj_ hj_.2.2.2.1
    refine eb_callV (n := 1) (as := [.int (σ.1 0 39)]) (rest := []) X hw hl.1 0 hc (by decide) ⟨rfl, rfl, rfl⟩ (eb_goodV wi_33_4 wi_33_5 wi_33_6 wi_1_5 wi_33_7) rfl (by decide +kernel) ⟨by decide, by decide⟩ rfl rfl (Nat.le_of_ble_eq_true rfl) dX10_stores_18 ⟨by decide, by decide⟩ (st' := [.long z2]) rfl (fun H locs hw => ?_)
    refine lv_aload_n hx hb dX10_stores_21 rfl (lv_at hl 0 rfl) ?_
    refine eb_get (T := TX10) X hw 0 37 (by decide) ⟨rfl, rfl, rfl⟩ (by decide) (fun _ h => List.mem_cons_of_mem _ (inlX10 _ h)) (List.mem_cons_of_mem _ wi_30_8) (v := .int (σ.1 0 37)) rfl dX10_stores_22 ?_
    refine lv_bipush (v := 25) hx hb dX10_stores_25 (by decide) ?_
    refine lv_ishr hx hb dX10_stores_27 ?_
    refine lv_iconst (v := 5) hx hb dX10_stores_28 (by decide) ?_
    refine lv_ishl hx hb dX10_stores_29 ?_
    refine lv_aload_n hx hb dX10_stores_30 rfl (lv_at hl 0 rfl) ?_
    refine eb_get (T := TX10) X hw 0 38 (by decide) ⟨rfl, rfl, rfl⟩ (by decide) (fun _ h => List.mem_cons_of_mem _ (inlX10 _ h)) (List.mem_cons_of_mem _ wi_30_9) (v := .int (σ.1 0 38)) rfl dX10_stores_31 ?_
    refine lv_ior hx hb dX10_stores_34 ?_
    refine lv_i2l (v := ((((σ.1 0 37) >>> (25 &&& 31)) <<< (5 &&& 31)) ||| (σ.1 0 38)).toInt64) hx hb dX10_stores_35 rfl ?_
    refine lv_ladd hx hb dX10_stores_36 ?_
    refine lv_topl (fun x3 ex3 => ?_)
    have hm : (fun (x4 : Int32) => (if (x3 &&& ((x4 - 1).toInt64)) = 0 then (fun (z6 : Bool) => (if (eb_b z6) = 0 then (fun (z8 : Int32 × eb_St) => (z8.1, z8.2)) (m_X10_fault σ 7 x3) else (fun (z9 : Bool × eb_St) => (if (eb_b z9.1) = 0 then (fun (z14 : Int32 × eb_St) => (z14.1, z14.2)) (m_X10_fault z9.2 7 x3) else (fun (z11 : Int64) => (fun (z12 : eb_St) => (fun (z13 : Int32 × eb_St) => (z13.1, z13.2)) (m_X10_goesOn z12)) (m_X10_put z9.2 x3.toInt32 x4 z11)) (m_X10_x z9.2 (z9.2.1 0 40)))) (m_X10_lets σ x3.toInt32 x4 2 (σ.1 0 4)))) (m_X10_isMemory x3 x4) else (fun (z15 : Int32 × eb_St) => (z15.1, z15.2)) (m_X10_fault σ 6 x3))) (1 <<< ((σ.1 0 41) &&& 31)) = mm := by rw [ex3]; exact hm
    refine lv_lstore_n (lv' := [(1, .long x3), (0, .ref (ad 0))]) hx hb dX10_stores_37 rfl hl (by decide) rfl (fun ls hl => ?_)
    refine lv_iconst (v := 1) hx hb dX10_stores_38 (by decide) ?_
    refine lv_aload_n hx hb dX10_stores_39 rfl (lv_at hl 1 rfl) ?_
    refine eb_get (T := TX10) X hw 0 41 (by decide) ⟨rfl, rfl, rfl⟩ (by decide) (fun _ h => List.mem_cons_of_mem _ (inlX10 _ h)) (List.mem_cons_of_mem _ wi_30_10) (v := .int (σ.1 0 41)) rfl dX10_stores_40 ?_
    refine lv_ishl hx hb dX10_stores_43 ?_
    refine lv_topi (fun x4 ex4 => ?_)
    have hm : (if (x3 &&& ((x4 - 1).toInt64)) = 0 then (fun (z6 : Bool) => (if (eb_b z6) = 0 then (fun (z8 : Int32 × eb_St) => (z8.1, z8.2)) (m_X10_fault σ 7 x3) else (fun (z9 : Bool × eb_St) => (if (eb_b z9.1) = 0 then (fun (z14 : Int32 × eb_St) => (z14.1, z14.2)) (m_X10_fault z9.2 7 x3) else (fun (z11 : Int64) => (fun (z12 : eb_St) => (fun (z13 : Int32 × eb_St) => (z13.1, z13.2)) (m_X10_goesOn z12)) (m_X10_put z9.2 x3.toInt32 x4 z11)) (m_X10_x z9.2 (z9.2.1 0 40)))) (m_X10_lets σ x3.toInt32 x4 2 (σ.1 0 4)))) (m_X10_isMemory x3 x4) else (fun (z15 : Int32 × eb_St) => (z15.1, z15.2)) (m_X10_fault σ 6 x3)) = mm := by rw [ex4]; exact hm
    refine lv_istore_n (lv' := [(3, .int x4), (1, .long x3), (0, .ref (ad 0))]) hx hb dX10_stores_44 rfl hl (by decide) rfl (fun ls hl => ?_)
    refine lv_lload_n hx hb dX10_stores_45 rfl (lv_at hl 1 rfl) ?_
    refine lv_iload_n hx hb dX10_stores_46 rfl (lv_at hl 0 rfl) ?_
    refine lv_iconst (v := 1) hx hb dX10_stores_47 (by decide) ?_
    refine lv_isub hx hb dX10_stores_48 ?_
    refine lv_i2l (v := (x4 - 1).toInt64) hx hb dX10_stores_49 rfl ?_
    refine lv_land hx hb dX10_stores_50 ?_
    refine lv_lconst (v := 0) hx hb dX10_stores_51 (by decide) ?_
    refine eb_lif_eq (tgt := 64) hx hb dX10_stores_52 dX10_stores_53 (by decide) (fun h5 => ?_) (fun h5 => ?_)
    · have hm := (if_pos h5).symm.trans hm
      refine lv_lload_n hx hb dX10_stores_64 rfl (lv_at hl 1 rfl) ?_
      refine lv_iload_n hx hb dX10_stores_65 rfl (lv_at hl 0 rfl) ?_
      obtain ⟨z6, qz6⟩ : ∃ t : Bool, t = m_X10_isMemory x3 x4 := ⟨_, rfl⟩
      have hm : (if (eb_b z6) = 0 then (fun (z8 : Int32 × eb_St) => (z8.1, z8.2)) (m_X10_fault σ 7 x3) else (fun (z9 : Bool × eb_St) => (if (eb_b z9.1) = 0 then (fun (z14 : Int32 × eb_St) => (z14.1, z14.2)) (m_X10_fault z9.2 7 x3) else (fun (z11 : Int64) => (fun (z12 : eb_St) => (fun (z13 : Int32 × eb_St) => (z13.1, z13.2)) (m_X10_goesOn z12)) (m_X10_put z9.2 x3.toInt32 x4 z11)) (m_X10_x z9.2 (z9.2.1 0 40)))) (m_X10_lets σ x3.toInt32 x4 2 (σ.1 0 4))) = mm := by rw [qz6]; exact hm
      have hc : eb_M l yX10_isMemory (Cond.code yX10_isMemory cX10_isMemory 3 (some .boolean) :: wsL_law) 0 0 D 18 cy rL ad σ [.long x3, .int x4] (some (.int (eb_b z6))) σ := by rw [qz6]; exact c_X10_isMemory l D cy ad σ x3 x4
      refine eb_callS (n := 2) X hw hl.1 (rest := []) hc (eb_goodS wi_31_0 wi_31_1 wi_1_5 wi_31_2) rfl (by decide +kernel) ⟨by decide, by decide⟩ rfl rfl (Nat.le_of_ble_eq_true rfl) dX10_stores_66 ⟨by decide, by decide⟩ (st' := [.int (eb_b z6)]) rfl (fun H locs hw => ?_)
      refine lv_if_eq (tgt := 87) hx hb dX10_stores_69 (by decide) (fun h7 => ?_) (fun h7 => ?_)
      · have hm := (if_pos h7).symm.trans hm
        refine lv_aload_n hx hb dX10_stores_87 rfl (lv_at hl 2 rfl) ?_
        refine lv_bipush (v := 7) hx hb dX10_stores_88 (by decide) ?_
        refine lv_lload_n hx hb dX10_stores_90 rfl (lv_at hl 1 rfl) ?_
        obtain ⟨z8, qz8⟩ : ∃ t : Int32 × eb_St, t = m_X10_fault σ 7 x3 := ⟨_, rfl⟩
        have hm : (z8.1, z8.2) = mm := by rw [qz8]; exact hm
        have jz8 : rJ z8.2 := J_X10_fault qz8.symm hj_
        have hc : eb_M l yX10_fault (Cond.code yX10_fault cX10_fault 4 (some .int) :: wsL_law) 0 0 D 18 cy rL ad σ [.ref (ad 0), .int 7, .long x3] (some (.int z8.1)) z8.2 := by rw [qz8]; exact c_X10_fault l D cy ad σ 7 x3 hj_
        refine eb_callV (n := 2) (as := [.int 7, .long x3]) (rest := []) X hw hl.1 0 hc (by decide) ⟨rfl, rfl, rfl⟩ (eb_goodV wi_30_20 wi_30_21 wi_30_22 wi_1_5 wi_30_23) rfl (by decide +kernel) ⟨by decide, by decide⟩ rfl rfl (Nat.le_of_ble_eq_true rfl) dX10_stores_91 ⟨by decide, by decide⟩ (st' := [.int z8.1]) rfl (fun H locs hw => ?_)
        subst hm
        exact eb_iret X hw rfl rfl rfl dX10_stores_94
      · have hm := (if_neg h7).symm.trans hm
        refine lv_aload_n hx hb dX10_stores_72 rfl (lv_at hl 2 rfl) ?_
        refine lv_lload_n hx hb dX10_stores_73 rfl (lv_at hl 1 rfl) ?_
        refine lv_l2i (v := x3.toInt32) hx hb dX10_stores_74 rfl ?_
        refine lv_iload_n hx hb dX10_stores_75 rfl (lv_at hl 0 rfl) ?_
        refine lv_iconst (v := 2) hx hb dX10_stores_76 (by decide) ?_
        refine lv_aload_n hx hb dX10_stores_77 rfl (lv_at hl 2 rfl) ?_
        refine eb_get (T := TX10) X hw 0 4 (by decide) ⟨rfl, rfl, rfl⟩ (by decide) (fun _ h => List.mem_cons_of_mem _ (inlX10 _ h)) (List.mem_cons_of_mem _ wi_5_11) (v := .int (σ.1 0 4)) rfl dX10_stores_78 ?_
        obtain ⟨z9, qz9⟩ : ∃ t : Bool × eb_St, t = m_X10_lets σ x3.toInt32 x4 2 (σ.1 0 4) := ⟨_, rfl⟩
        have hm : (if (eb_b z9.1) = 0 then (fun (z14 : Int32 × eb_St) => (z14.1, z14.2)) (m_X10_fault z9.2 7 x3) else (fun (z11 : Int64) => (fun (z12 : eb_St) => (fun (z13 : Int32 × eb_St) => (z13.1, z13.2)) (m_X10_goesOn z12)) (m_X10_put z9.2 x3.toInt32 x4 z11)) (m_X10_x z9.2 (z9.2.1 0 40))) = mm := by rw [qz9]; exact hm
        have jz9 : rJ z9.2 := J_X10_lets qz9.symm hj_ hj_.2.2.2.2.2.1
        have hc : eb_M l yX10_lets (Cond.code yX10_lets cX10_lets 7 (some .boolean) :: wsL_law) 4 92 D 18 cy rL ad σ [.ref (ad 0), .int x3.toInt32, .int x4, .int 2, .int (σ.1 0 4)] (some (.int (eb_b z9.1))) z9.2 := by rw [qz9]; exact c_X10_lets l D cy ad σ x3.toInt32 x4 2 (σ.1 0 4) hj_ hj_.2.2.2.2.2.1
        refine eb_callV (n := 4) (as := [.int x3.toInt32, .int x4, .int 2, .int (σ.1 0 4)]) (rest := []) X hw hl.1 0 hc (by decide) ⟨rfl, rfl, rfl⟩ (eb_goodV wi_31_3 wi_31_4 wi_31_5 wi_1_5 wi_31_6) rfl (by decide +kernel) ⟨by decide, by decide⟩ rfl rfl (Nat.le_of_ble_eq_true rfl) dX10_stores_81 ⟨by decide, by decide⟩ (st' := [.int (eb_b z9.1)]) rfl (fun H locs hw => ?_)
        refine lv_if_ne (tgt := 95) hx hb dX10_stores_84 (by decide) (fun h10 => ?_) (fun h10 => ?_)
        · have hm := (if_neg h10).symm.trans hm
          refine lv_aload_n hx hb dX10_stores_95 rfl (lv_at hl 2 rfl) ?_
          refine lv_lload_n hx hb dX10_stores_96 rfl (lv_at hl 1 rfl) ?_
          refine lv_l2i (v := x3.toInt32) hx hb dX10_stores_97 rfl ?_
          refine lv_iload_n hx hb dX10_stores_98 rfl (lv_at hl 0 rfl) ?_
          refine lv_aload_n hx hb dX10_stores_99 rfl (lv_at hl 2 rfl) ?_
          refine lv_aload_n hx hb dX10_stores_100 rfl (lv_at hl 2 rfl) ?_
          refine eb_get (T := TX10) X hw 0 40 (by decide) ⟨rfl, rfl, rfl⟩ (by decide) (fun _ h => List.mem_cons_of_mem _ (inlX10 _ h)) (List.mem_cons_of_mem _ wi_30_12) (v := .int (z9.2.1 0 40)) rfl dX10_stores_101 ?_
          obtain ⟨z11, qz11⟩ : ∃ t : Int64, t = m_X10_x z9.2 (z9.2.1 0 40) := ⟨_, rfl⟩
          have hm : (fun (z12 : eb_St) => (fun (z13 : Int32 × eb_St) => (z13.1, z13.2)) (m_X10_goesOn z12)) (m_X10_put z9.2 x3.toInt32 x4 z11) = mm := by rw [qz11]; exact hm
          have hc : eb_M l yX10_x (Cond.code yX10_x cX10_x 2 (some .long) :: wsL_law) 1 20 D 18 cy rL ad z9.2 [.ref (ad 0), .int (z9.2.1 0 40)] (some (.long z11)) z9.2 := by rw [qz11]; exact c_X10_x l D cy ad z9.2 (z9.2.1 0 40) jz9 jz9.2.2.2.2.1
          refine eb_callV (n := 1) (as := [.int (z9.2.1 0 40)]) (rest := [.int x4, .int x3.toInt32, .ref (ad 0)]) X hw hl.1 0 hc (by decide) ⟨rfl, rfl, rfl⟩ (eb_goodV wi_33_4 wi_33_5 wi_33_6 wi_1_5 wi_33_7) rfl (by decide +kernel) ⟨by decide, by decide⟩ rfl rfl (Nat.le_of_ble_eq_true rfl) dX10_stores_104 ⟨by decide, by decide⟩ (st' := [.long z11, .int x4, .int x3.toInt32, .ref (ad 0)]) rfl (fun H locs hw => ?_)
          obtain ⟨z12, qz12⟩ : ∃ t : eb_St, t = m_X10_put z9.2 x3.toInt32 x4 z11 := ⟨_, rfl⟩
          have hm : (fun (z13 : Int32 × eb_St) => (z13.1, z13.2)) (m_X10_goesOn z12) = mm := by rw [qz12]; exact hm
          have jz12 : rJ z12 := J_X10_put qz12.symm jz9 (l_X10_isMemory (show m_X10_isMemory _ _ = true from by rw [← qz6]; exact eb_b_n0 h7) (show 0 ≤ x4.toInt ∧ x4.toInt ≤ 65536 from (by rw [ex4]; exact eb_sz3s hj_.2.2.2.2.2.2.1 (eb_nlt_of_le h1))).1 (show 0 ≤ x4.toInt ∧ x4.toInt ≤ 65536 from (by rw [ex4]; exact eb_sz3s hj_.2.2.2.2.2.2.1 (eb_nlt_of_le h1))).2).1 (l_X10_isMemory (show m_X10_isMemory _ _ = true from by rw [← qz6]; exact eb_b_n0 h7) (show 0 ≤ x4.toInt ∧ x4.toInt ≤ 65536 from (by rw [ex4]; exact eb_sz3s hj_.2.2.2.2.2.2.1 (eb_nlt_of_le h1))).1 (show 0 ≤ x4.toInt ∧ x4.toInt ≤ 65536 from (by rw [ex4]; exact eb_sz3s hj_.2.2.2.2.2.2.1 (eb_nlt_of_le h1))).2).2
          have hc : eb_M l yX10_put (Cond.code yX10_put cX10_put 6 none :: wsL_law) 0 0 D 18 cy rL ad z9.2 [.ref (ad 0), .int x3.toInt32, .int x4, .long z11] (none) z12 := by rw [qz12]; exact c_X10_put l D cy ad z9.2 x3.toInt32 x4 z11 jz9 (l_X10_isMemory (show m_X10_isMemory _ _ = true from by rw [← qz6]; exact eb_b_n0 h7) (show 0 ≤ x4.toInt ∧ x4.toInt ≤ 65536 from (by rw [ex4]; exact eb_sz3s hj_.2.2.2.2.2.2.1 (eb_nlt_of_le h1))).1 (show 0 ≤ x4.toInt ∧ x4.toInt ≤ 65536 from (by rw [ex4]; exact eb_sz3s hj_.2.2.2.2.2.2.1 (eb_nlt_of_le h1))).2).1 (l_X10_isMemory (show m_X10_isMemory _ _ = true from by rw [← qz6]; exact eb_b_n0 h7) (show 0 ≤ x4.toInt ∧ x4.toInt ≤ 65536 from (by rw [ex4]; exact eb_sz3s hj_.2.2.2.2.2.2.1 (eb_nlt_of_le h1))).1 (show 0 ≤ x4.toInt ∧ x4.toInt ≤ 65536 from (by rw [ex4]; exact eb_sz3s hj_.2.2.2.2.2.2.1 (eb_nlt_of_le h1))).2).2
          refine eb_callV (n := 3) (as := [.int x3.toInt32, .int x4, .long z11]) (rest := []) X hw hl.1 0 hc (by decide) ⟨rfl, rfl, rfl⟩ (eb_goodV wi_11_8 wi_11_9 wi_11_10 wi_1_5 wi_11_11) rfl (by decide +kernel) ⟨by decide, by decide⟩ rfl rfl (Nat.le_of_ble_eq_true rfl) dX10_stores_107 ⟨by decide, by decide⟩ (st' := []) rfl (fun H locs hw => ?_)
          refine lv_aload_n hx hb dX10_stores_110 rfl (lv_at hl 2 rfl) ?_
          obtain ⟨z13, qz13⟩ : ∃ t : Int32 × eb_St, t = m_X10_goesOn z12 := ⟨_, rfl⟩
          have hm : (z13.1, z13.2) = mm := by rw [qz13]; exact hm
          have jz13 : rJ z13.2 := J_X10_goesOn qz13.symm jz12
          have hc : eb_M l yX10_goesOn (Cond.code yX10_goesOn cX10_goesOn 1 (some .int) :: wsL_law) 1 20 D 18 cy rL ad z12 [.ref (ad 0)] (some (.int z13.1)) z13.2 := by rw [qz13]; exact c_X10_goesOn l D cy ad z12 jz12
          refine eb_callV (n := 0) (as := []) (rest := []) X hw hl.1 0 hc (by decide) ⟨rfl, rfl, rfl⟩ (eb_goodV wi_32_10 wi_32_11 wi_32_12 wi_1_5 wi_32_13) rfl (by decide +kernel) ⟨by decide, by decide⟩ rfl rfl (Nat.le_of_ble_eq_true rfl) dX10_stores_111 ⟨by decide, by decide⟩ (st' := [.int z13.1]) rfl (fun H locs hw => ?_)
          subst hm
          exact eb_iret X hw rfl rfl rfl dX10_stores_114
        · have hm := (if_pos h10).symm.trans hm
          refine lv_aload_n hx hb dX10_stores_87 rfl (lv_at hl 2 rfl) ?_
          refine lv_bipush (v := 7) hx hb dX10_stores_88 (by decide) ?_
          refine lv_lload_n hx hb dX10_stores_90 rfl (lv_at hl 1 rfl) ?_
          obtain ⟨z14, qz14⟩ : ∃ t : Int32 × eb_St, t = m_X10_fault z9.2 7 x3 := ⟨_, rfl⟩
          have hm : (z14.1, z14.2) = mm := by rw [qz14]; exact hm
          have jz14 : rJ z14.2 := J_X10_fault qz14.symm jz9
          have hc : eb_M l yX10_fault (Cond.code yX10_fault cX10_fault 4 (some .int) :: wsL_law) 0 0 D 18 cy rL ad z9.2 [.ref (ad 0), .int 7, .long x3] (some (.int z14.1)) z14.2 := by rw [qz14]; exact c_X10_fault l D cy ad z9.2 7 x3 jz9
          refine eb_callV (n := 2) (as := [.int 7, .long x3]) (rest := []) X hw hl.1 0 hc (by decide) ⟨rfl, rfl, rfl⟩ (eb_goodV wi_30_20 wi_30_21 wi_30_22 wi_1_5 wi_30_23) rfl (by decide +kernel) ⟨by decide, by decide⟩ rfl rfl (Nat.le_of_ble_eq_true rfl) dX10_stores_91 ⟨by decide, by decide⟩ (st' := [.int z14.1]) rfl (fun H locs hw => ?_)
          subst hm
          exact eb_iret X hw rfl rfl rfl dX10_stores_94
    · have hm := (if_neg h5).symm.trans hm
      refine lv_aload_n hx hb dX10_stores_56 rfl (lv_at hl 2 rfl) ?_
      refine lv_bipush (v := 6) hx hb dX10_stores_57 (by decide) ?_
      refine lv_lload_n hx hb dX10_stores_59 rfl (lv_at hl 1 rfl) ?_
      obtain ⟨z15, qz15⟩ : ∃ t : Int32 × eb_St, t = m_X10_fault σ 6 x3 := ⟨_, rfl⟩
      have hm : (z15.1, z15.2) = mm := by rw [qz15]; exact hm
      have jz15 : rJ z15.2 := J_X10_fault qz15.symm hj_
      have hc : eb_M l yX10_fault (Cond.code yX10_fault cX10_fault 4 (some .int) :: wsL_law) 0 0 D 18 cy rL ad σ [.ref (ad 0), .int 6, .long x3] (some (.int z15.1)) z15.2 := by rw [qz15]; exact c_X10_fault l D cy ad σ 6 x3 hj_
      refine eb_callV (n := 2) (as := [.int 6, .long x3]) (rest := []) X hw hl.1 0 hc (by decide) ⟨rfl, rfl, rfl⟩ (eb_goodV wi_30_20 wi_30_21 wi_30_22 wi_1_5 wi_30_23) rfl (by decide +kernel) ⟨by decide, by decide⟩ rfl rfl (Nat.le_of_ble_eq_true rfl) dX10_stores_60 ⟨by decide, by decide⟩ (st' := [.int z15.1]) rfl (fun H locs hw => ?_)
      subst hm
      exact eb_iret X hw rfl rfl rfl dX10_stores_63
  · have hm := (if_neg h1).symm.trans hm
    refine lv_aload_n hx hb dX10_stores_8 rfl (lv_at hl 0 rfl) ?_
    obtain ⟨z16, qz16⟩ : ∃ t : Int32 × eb_St, t = m_X10_illegal σ := ⟨_, rfl⟩
    have hm : (z16.1, z16.2) = mm := by rw [qz16]; exact hm
    have jz16 : rJ z16.2 := J_X10_illegal qz16.symm hj_
    have hc : eb_M l yX10_illegal (Cond.code yX10_illegal cX10_illegal 1 (some .int) :: wsL_law) 1 23 D 18 cy rL ad σ [.ref (ad 0)] (some (.int z16.1)) z16.2 := by rw [qz16]; exact c_X10_illegal l D cy ad σ hj_
    refine eb_callV (n := 0) (as := []) (rest := []) X hw hl.1 0 hc (by decide) ⟨rfl, rfl, rfl⟩ (eb_goodV wi_32_23 wi_33_0 wi_33_1 wi_1_5 wi_33_2) rfl (by decide +kernel) ⟨by decide, by decide⟩ rfl rfl (Nat.le_of_ble_eq_true rfl) dX10_stores_9 ⟨by decide, by decide⟩ (st' := [.int z16.1]) rfl (fun H locs hw => ?_)
    subst hm
    exact eb_iret X hw rfl rfl rfl dX10_stores_12

theorem J_X10_mayAll_6 : ∀ (n : Nat) (σ : eb_St) (v1 : Int64) (v3 : Int64) (v5 : Int32) (v6 : Bool) (v7 : Int64) {mm : Bool × eb_St} (_ : (m_X10_mayAll_6  n σ v1 v3 v5 v6 v7) = mm) (hj_ : rJ σ)  (hn : (v3.toInt - v7.toInt).toNat < n), rJ mm.2 := by
  intro n
  induction n with
  | zero => intro σ v1 v3 v5 v6 v7 mm hm hj_ hn; exact absurd hn (Nat.not_lt_zero _)
  | succ n ih =>
    intro σ v1 v3 v5 v6 v7 mm hm hj_ hn
    have hm : (if v3 ≤ v7 then (v6, σ) else (if (eb_b v6) = 0 then (v6, σ) else (fun (z3 : Bool × eb_St) => (fun (x4 : Int64) => m_X10_mayAll_6  n z3.2 v1 v3 v5 z3.1 x4) (v7 + 1)) (m_X10_lets σ ((v1 + v7).toInt32) 1 v5 0))) = mm := hm
    refine eb_em (c := v3 ≤ v7) (fun h1 => ?_) (fun h1 => ?_)
    · have hm := (if_pos h1).symm.trans hm
      subst hm
      exact hj_
    · have hm := (if_neg h1).symm.trans hm
      refine eb_em (c := (eb_b v6) = 0) (fun h2 => ?_) (fun h2 => ?_)
      · have hm := (if_pos h2).symm.trans hm
        subst hm
        exact hj_
      · have hm := (if_neg h2).symm.trans hm
        obtain ⟨z3, qz3⟩ : ∃ t : Bool × eb_St, t = m_X10_lets σ ((v1 + v7).toInt32) 1 v5 0 := ⟨_, rfl⟩
        have hm : (fun (x4 : Int64) => m_X10_mayAll_6  n z3.2 v1 v3 v5 z3.1 x4) (v7 + 1) = mm := by rw [qz3]; exact hm
        have jz3 : rJ z3.2 := J_X10_lets qz3.symm hj_ (Or.inl rfl)
        obtain ⟨x4, ex4⟩ : ∃ z : Int64, z = v7 + 1 := ⟨_, rfl⟩
        have hm : m_X10_mayAll_6  n z3.2 v1 v3 v5 z3.1 x4 = mm := by rw [ex4]; exact hm
        exact ih z3.2 v1 v3 v5 z3.1 x4 hm jz3 (eb_upL (eb_nleL h1) ex4 hn)
theorem J_X10_mayAll {σ : eb_St} {a0 : Int64} {a1 : Int64} {a2 : Int32} {mm : Bool × eb_St} (hm : m_X10_mayAll σ a0 a1 a2 = mm) (hj_ : rJ σ) : rJ mm.2 := by
  have hm : m_X10_mayAll_6  ((a1.toInt - (0 : Int64).toInt).toNat + 1) σ a0 a1 a2 true 0 = mm := hm
  exact J_X10_mayAll_6 ((a1.toInt - (0 : Int64).toInt).toNat + 1) σ a0 a1 a2 true 0 hm hj_ (Nat.lt_succ_self _)
set_option maxHeartbeats 4000000 in
set_option maxRecDepth 100000 in
theorem k_X10_mayAll_6 {p : Program} {l : Launch} {e : Env} {s : State} {m : MethodId} {args : Array Value} {below : List Frame} {meth : Method} {c : Code} {A : Nat → Prop} {D : va_G} {cy : Nat → ClassId} {ad : Nat → Nat} (X : eb_X p s m args meth c cX10_mayAll 9 RX10 (Cond.code yX10_mayAll cX10_mayAll 9 (some .boolean) :: wsL_law) (some .boolean) D cy A)   : ∀ (n : Nat) (σ : eb_St) (v1 : Int64) (v3 : Int64) (v5 : Int32) (v6 : Bool) (v7 : Int64) (hj_ : rJ σ)  (hn : (v3.toInt - v7.toInt).toNat < n) {H : Heap} {locs : List Loc} {ls : Array Slot} {mm : Bool × eb_St} (_ : (m_X10_mayAll_6  n σ v1 v3 v5 v6 v7) = mm) (hw : eb_H D 18 cy rL ad A s.heap σ H locs) (hl : lv_has ls 9 [(0, .ref (ad 0)), (1, .long v1), (3, .long v3), (5, .int v5), (6, .int (eb_b v6)), (7, .long v7)]), W p l e ({ frames := 5, cells := 0, slots := 0, locals := 118 } : Room) s m args below meth c H locs 0 0 (MQ below (eb_Q D 18 cy rL ad A (some (.int (eb_b mm.1))) mm.2) args s 0 0 A) (F0 m 6 ls []) := by
  have hx := X.1.1
  have hb := X.1.2.1
  have hown := X.1.2.2.2.1
  have hts := X.1.2.2.2.2
  intro n
  induction n with
  | zero => intro σ v1 v3 v5 v6 v7 hj_ hn; exact absurd hn (Nat.not_lt_zero _)
  | succ n ih =>
    intro σ v1 v3 v5 v6 v7 hj_ hn H locs ls mm hm hw hl
    have hm : (if v3 ≤ v7 then (v6, σ) else (if (eb_b v6) = 0 then (v6, σ) else (fun (z3 : Bool × eb_St) => (fun (x4 : Int64) => m_X10_mayAll_6  n z3.2 v1 v3 v5 z3.1 x4) (v7 + 1)) (m_X10_lets σ ((v1 + v7).toInt32) 1 v5 0))) = mm := hm
    refine lv_lload hx hb dX10_mayAll_6 (lv_at hl 5 rfl) ?_
    refine lv_lload_n hx hb dX10_mayAll_8 rfl (lv_at hl 2 rfl) ?_
    refine eb_lif_ge (tgt := 42) hx hb dX10_mayAll_9 dX10_mayAll_10 (by decide) (fun h1 => ?_) (fun h1 => ?_)
    · have hm := (if_pos h1).symm.trans hm
      refine lv_iload hx hb dX10_mayAll_42 (lv_at hl 4 rfl) ?_
      subst hm
      exact eb_zret X hw rfl (eb_b_nar _) rfl rfl dX10_mayAll_44
    · have hm := (if_neg h1).symm.trans hm
      refine lv_iload hx hb dX10_mayAll_13 (lv_at hl 4 rfl) ?_
      refine lv_if_eq (tgt := 42) hx hb dX10_mayAll_15 (by decide) (fun h2 => ?_) (fun h2 => ?_)
      · have hm := (if_pos h2).symm.trans hm
        refine lv_iload hx hb dX10_mayAll_42 (lv_at hl 4 rfl) ?_
        subst hm
        exact eb_zret X hw rfl (eb_b_nar _) rfl rfl dX10_mayAll_44
      · have hm := (if_neg h2).symm.trans hm
        refine lv_aload_n hx hb dX10_mayAll_18 rfl (lv_at hl 0 rfl) ?_
        refine lv_lload_n hx hb dX10_mayAll_19 rfl (lv_at hl 1 rfl) ?_
        refine lv_lload hx hb dX10_mayAll_20 (lv_at hl 5 rfl) ?_
        refine lv_ladd hx hb dX10_mayAll_22 ?_
        refine lv_l2i (v := (v1 + v7).toInt32) hx hb dX10_mayAll_23 rfl ?_
        refine lv_iconst (v := 1) hx hb dX10_mayAll_24 (by decide) ?_
        refine lv_iload hx hb dX10_mayAll_25 (lv_at hl 3 rfl) ?_
        refine lv_iconst (v := 0) hx hb dX10_mayAll_27 (by decide) ?_
        obtain ⟨z3, qz3⟩ : ∃ t : Bool × eb_St, t = m_X10_lets σ ((v1 + v7).toInt32) 1 v5 0 := ⟨_, rfl⟩
        have hm : (fun (x4 : Int64) => m_X10_mayAll_6  n z3.2 v1 v3 v5 z3.1 x4) (v7 + 1) = mm := by rw [qz3]; exact hm
        have jz3 : rJ z3.2 := J_X10_lets qz3.symm hj_ (Or.inl rfl)
        have hc : eb_M l yX10_lets (Cond.code yX10_lets cX10_lets 7 (some .boolean) :: wsL_law) 4 92 D 18 cy rL ad σ [.ref (ad 0), .int ((v1 + v7).toInt32), .int 1, .int v5, .int 0] (some (.int (eb_b z3.1))) z3.2 := by rw [qz3]; exact c_X10_lets l D cy ad σ ((v1 + v7).toInt32) 1 v5 0 hj_ (Or.inl rfl)
        refine eb_callV (n := 4) (as := [.int ((v1 + v7).toInt32), .int 1, .int v5, .int 0]) (rest := []) X hw hl.1 0 hc (by decide) ⟨rfl, rfl, rfl⟩ (eb_goodV wi_31_3 wi_31_4 wi_31_5 wi_1_5 wi_31_6) rfl (by decide +kernel) ⟨by decide, by decide⟩ rfl rfl (Nat.le_of_ble_eq_true rfl) dX10_mayAll_28 ⟨by decide, by decide⟩ (st' := [.int (eb_b z3.1)]) rfl (fun H locs hw => ?_)
        refine lv_istore (lv' := [(6, .int (eb_b z3.1)), (0, .ref (ad 0)), (1, .long v1), (3, .long v3), (5, .int v5), (7, .long v7)]) hx hb dX10_mayAll_31 hl (by decide) rfl (fun ls hl => ?_)
        refine lv_lload hx hb dX10_mayAll_33 (lv_at hl 5 rfl) ?_
        refine lv_lconst (v := 1) hx hb dX10_mayAll_35 (by decide) ?_
        refine lv_ladd hx hb dX10_mayAll_36 ?_
        refine lv_topl (fun x4 ex4 => ?_)
        have hm : m_X10_mayAll_6  n z3.2 v1 v3 v5 z3.1 x4 = mm := by rw [ex4]; exact hm
        refine lv_lstore (lv' := [(7, .long x4), (6, .int (eb_b z3.1)), (0, .ref (ad 0)), (1, .long v1), (3, .long v3), (5, .int v5)]) hx hb dX10_mayAll_37 hl (by decide) rfl (fun ls hl => ?_)
        refine lv_goto (tgt := 6) hx hb dX10_mayAll_39 (by decide) ?_
        exact ih z3.2 v1 v3 v5 z3.1 x4 jz3 (eb_upL (eb_nleL h1) ex4 hn) hm hw (lv_sub hl [2, 3, 4, 5, 1, 0] rfl)
set_option maxHeartbeats 4000000 in
set_option maxRecDepth 100000 in
theorem c_X10_mayAll (l : Launch) (D : va_G) (cy : Nat → ClassId) (ad : Nat → Nat) (σ : eb_St) (a0 : Int64) (a1 : Int64) (a2 : Int32) (hj_ : rJ σ) : eb_M l yX10_mayAll (Cond.code yX10_mayAll cX10_mayAll 9 (some .boolean) :: wsL_law) 5 118 D 18 cy rL ad σ [.ref (ad 0), .long a0, .long a1, .int a2] (some (.int (eb_b (m_X10_mayAll σ a0 a1 a2).1))) ((m_X10_mayAll σ a0 a1 a2).2) := by
  refine eb_start (own := RX10) (by decide) rfl rfl (Nat.le_of_ble_eq_true rfl) ?_
  intro p e s m args below meth c A ls X hw hl
  have hl : lv_has ls 9 [(0, .ref (ad 0)), (1, .long a0), (3, .long a1), (5, .int a2)] := hl
  have hx := X.1.1
  have hb := X.1.2.1
  have hown := X.1.2.2.2.1
  have hts := X.1.2.2.2.2
  generalize hm : m_X10_mayAll σ a0 a1 a2 = mm
  have hm : m_X10_mayAll_6  ((a1.toInt - (0 : Int64).toInt).toNat + 1) σ a0 a1 a2 true 0 = mm := hm
  refine lv_iconst (v := 1) hx hb dX10_mayAll_0 (by decide) ?_
  refine lv_istore (lv' := [(6, .int 1), (0, .ref (ad 0)), (1, .long a0), (3, .long a1), (5, .int a2)]) hx hb dX10_mayAll_1 hl (by decide) rfl (fun ls hl => ?_)
  refine lv_lconst (v := 0) hx hb dX10_mayAll_3 (by decide) ?_
  refine lv_lstore (lv' := [(7, .long 0), (6, .int 1), (0, .ref (ad 0)), (1, .long a0), (3, .long a1), (5, .int a2)]) hx hb dX10_mayAll_4 hl (by decide) rfl (fun ls hl => ?_)
  exact k_X10_mayAll_6 X   ((a1.toInt - (0 : Int64).toInt).toNat + 1) σ a0 a1 a2 true 0 hj_ (Nat.lt_succ_self _) hm hw (lv_sub hl [2, 3, 4, 5, 1, 0] rfl)

set_option maxHeartbeats 4000000 in
set_option maxRecDepth 100000 in
theorem c_X10_has (l : Launch) (D : va_G) (cy : Nat → ClassId) (ad : Nat → Nat) (σ : eb_St) (a0 : Int32) (hj_ : rJ σ) (h0_ : m_X10_isCsr a0 = true) : eb_M l yX10_has (Cond.code yX10_has cX10_has 2 (some .long) :: wsL_law) 3 66 D 18 cy rL ad σ [.ref (ad 0), .int a0] (some (.long (m_X10_has σ a0))) σ := by
  refine eb_start (own := RX10) (by decide) rfl rfl (Nat.le_of_ble_eq_true rfl) ?_
  intro p e s m args below meth c A ls X hw hl
  have hl : lv_has ls 2 [(0, .ref (ad 0)), (1, .int a0)] := hl
  have hx := X.1.1
  have hb := X.1.2.1
  have hown := X.1.2.2.2.1
  have hts := X.1.2.2.2.2
  generalize hm : m_X10_has σ a0 = mm
  have hm : (if a0 = 768 then eb_lshl (σ.2 0 15) 11 else if a0 = 832 then σ.2 0 16 else if a0 = 833 then σ.2 0 17 else if a0 = 834 then σ.2 0 18 else if a0 = 835 then σ.2 0 19 else if a0 = 928 then (fun (z7 : Int64) => z7) (m_X10_bytes σ 0) else if a0 = 930 then (fun (z9 : Int64) => z9) (m_X10_bytes σ 8) else if a0 = 2818 then (σ.1 0 9).toInt64 else if a0 = 3860 then 0 else (fun (z12 : Int64) => z12) (m_X10_addressOf σ (a0 - 944))) = mm := hm
  refine lv_iload_n hx hb dX10_has_0 rfl (lv_at hl 1 rfl) ?_
  by_cases h1 : a0 = 768
  · have hm := (if_pos h1).symm.trans hm
    refine lv_lookup (off := 83) (tgt := 84) hx hb dX10_has_1 (by decide) (by rw [h1]; decide) (by decide) ?_
    refine lv_aload_n hx hb dX10_has_84 rfl (lv_at hl 0 rfl) ?_
    refine eb_get (T := TX10) X hw 0 15 (by decide) ⟨rfl, rfl, rfl⟩ (by decide) (fun _ h => List.mem_cons_of_mem _ (inlX10 _ h)) (List.mem_cons_of_mem _ wi_9_16) (v := .long (σ.2 0 15)) rfl dX10_has_85 ?_
    refine lv_bipush (v := 11) hx hb dX10_has_88 (by decide) ?_
    refine lv_lshl (v := eb_lshl (σ.2 0 15) 11) hx hb dX10_has_90 rfl ?_
    subst hm
    exact eb_lret X hw rfl rfl rfl dX10_has_91
  · have hm := (if_neg h1).symm.trans hm
    by_cases h2 : a0 = 832
    · have hm := (if_pos h2).symm.trans hm
      refine lv_lookup (off := 91) (tgt := 92) hx hb dX10_has_1 (by decide) (by rw [h2]; decide) (by decide) ?_
      refine lv_aload_n hx hb dX10_has_92 rfl (lv_at hl 0 rfl) ?_
      refine eb_get (T := TX10) X hw 0 16 (by decide) ⟨rfl, rfl, rfl⟩ (by decide) (fun _ h => List.mem_cons_of_mem _ (inlX10 _ h)) (List.mem_cons_of_mem _ wi_9_17) (v := .long (σ.2 0 16)) rfl dX10_has_93 ?_
      subst hm
      exact eb_lret X hw rfl rfl rfl dX10_has_96
    · have hm := (if_neg h2).symm.trans hm
      by_cases h3 : a0 = 833
      · have hm := (if_pos h3).symm.trans hm
        refine lv_lookup (off := 96) (tgt := 97) hx hb dX10_has_1 (by decide) (by rw [h3]; decide) (by decide) ?_
        refine lv_aload_n hx hb dX10_has_97 rfl (lv_at hl 0 rfl) ?_
        refine eb_get (T := TX10) X hw 0 17 (by decide) ⟨rfl, rfl, rfl⟩ (by decide) (fun _ h => List.mem_cons_of_mem _ (inlX10 _ h)) (List.mem_cons_of_mem _ wi_9_18) (v := .long (σ.2 0 17)) rfl dX10_has_98 ?_
        subst hm
        exact eb_lret X hw rfl rfl rfl dX10_has_101
      · have hm := (if_neg h3).symm.trans hm
        by_cases h4 : a0 = 834
        · have hm := (if_pos h4).symm.trans hm
          refine lv_lookup (off := 101) (tgt := 102) hx hb dX10_has_1 (by decide) (by rw [h4]; decide) (by decide) ?_
          refine lv_aload_n hx hb dX10_has_102 rfl (lv_at hl 0 rfl) ?_
          refine eb_get (T := TX10) X hw 0 18 (by decide) ⟨rfl, rfl, rfl⟩ (by decide) (fun _ h => List.mem_cons_of_mem _ (inlX10 _ h)) (List.mem_cons_of_mem _ wi_9_19) (v := .long (σ.2 0 18)) rfl dX10_has_103 ?_
          subst hm
          exact eb_lret X hw rfl rfl rfl dX10_has_106
        · have hm := (if_neg h4).symm.trans hm
          by_cases h5 : a0 = 835
          · have hm := (if_pos h5).symm.trans hm
            refine lv_lookup (off := 106) (tgt := 107) hx hb dX10_has_1 (by decide) (by rw [h5]; decide) (by decide) ?_
            refine lv_aload_n hx hb dX10_has_107 rfl (lv_at hl 0 rfl) ?_
            refine eb_get (T := TX10) X hw 0 19 (by decide) ⟨rfl, rfl, rfl⟩ (by decide) (fun _ h => List.mem_cons_of_mem _ (inlX10 _ h)) (List.mem_cons_of_mem _ wi_9_20) (v := .long (σ.2 0 19)) rfl dX10_has_108 ?_
            subst hm
            exact eb_lret X hw rfl rfl rfl dX10_has_111
          · have hm := (if_neg h5).symm.trans hm
            by_cases h6 : a0 = 928
            · have hm := (if_pos h6).symm.trans hm
              refine lv_lookup (off := 111) (tgt := 112) hx hb dX10_has_1 (by decide) (by rw [h6]; decide) (by decide) ?_
              refine lv_aload_n hx hb dX10_has_112 rfl (lv_at hl 0 rfl) ?_
              refine lv_iconst (v := 0) hx hb dX10_has_113 (by decide) ?_
              obtain ⟨z7, qz7⟩ : ∃ t : Int64, t = m_X10_bytes σ 0 := ⟨_, rfl⟩
              have hm : z7 = mm := by rw [qz7]; exact hm
              have hc : eb_M l yX10_bytes (Cond.code yX10_bytes cX10_bytes 5 (some .long) :: wsL_law) 2 42 D 18 cy rL ad σ [.ref (ad 0), .int 0] (some (.long z7)) σ := by rw [qz7]; exact c_X10_bytes l D cy ad σ 0 hj_ (Or.inl rfl)
              refine eb_callV (n := 1) (as := [.int 0]) (rest := []) X hw hl.1 0 hc (by decide) ⟨rfl, rfl, rfl⟩ (eb_goodV wi_35_23 wi_36_0 wi_36_1 wi_1_5 wi_36_2) rfl (by decide +kernel) ⟨by decide, by decide⟩ rfl rfl (Nat.le_of_ble_eq_true rfl) dX10_has_114 ⟨by decide, by decide⟩ (st' := [.long z7]) rfl (fun H locs hw => ?_)
              subst hm
              exact eb_lret X hw rfl rfl rfl dX10_has_117
            · have hm := (if_neg h6).symm.trans hm
              by_cases h8 : a0 = 930
              · have hm := (if_pos h8).symm.trans hm
                refine lv_lookup (off := 117) (tgt := 118) hx hb dX10_has_1 (by decide) (by rw [h8]; decide) (by decide) ?_
                refine lv_aload_n hx hb dX10_has_118 rfl (lv_at hl 0 rfl) ?_
                refine lv_bipush (v := 8) hx hb dX10_has_119 (by decide) ?_
                obtain ⟨z9, qz9⟩ : ∃ t : Int64, t = m_X10_bytes σ 8 := ⟨_, rfl⟩
                have hm : z9 = mm := by rw [qz9]; exact hm
                have hc : eb_M l yX10_bytes (Cond.code yX10_bytes cX10_bytes 5 (some .long) :: wsL_law) 2 42 D 18 cy rL ad σ [.ref (ad 0), .int 8] (some (.long z9)) σ := by rw [qz9]; exact c_X10_bytes l D cy ad σ 8 hj_ (Or.inr rfl)
                refine eb_callV (n := 1) (as := [.int 8]) (rest := []) X hw hl.1 0 hc (by decide) ⟨rfl, rfl, rfl⟩ (eb_goodV wi_35_23 wi_36_0 wi_36_1 wi_1_5 wi_36_2) rfl (by decide +kernel) ⟨by decide, by decide⟩ rfl rfl (Nat.le_of_ble_eq_true rfl) dX10_has_121 ⟨by decide, by decide⟩ (st' := [.long z9]) rfl (fun H locs hw => ?_)
                subst hm
                exact eb_lret X hw rfl rfl rfl dX10_has_124
              · have hm := (if_neg h8).symm.trans hm
                by_cases h10 : a0 = 2818
                · have hm := (if_pos h10).symm.trans hm
                  refine lv_lookup (off := 124) (tgt := 125) hx hb dX10_has_1 (by decide) (by rw [h10]; decide) (by decide) ?_
                  refine lv_aload_n hx hb dX10_has_125 rfl (lv_at hl 0 rfl) ?_
                  refine eb_get (T := TX10) X hw 0 9 (by decide) ⟨rfl, rfl, rfl⟩ (by decide) (fun _ h => List.mem_cons_of_mem _ (inlX10 _ h)) (List.mem_cons_of_mem _ wi_9_10) (v := .int (σ.1 0 9)) rfl dX10_has_126 ?_
                  refine lv_i2l (v := (σ.1 0 9).toInt64) hx hb dX10_has_129 rfl ?_
                  subst hm
                  exact eb_lret X hw rfl rfl rfl dX10_has_130
                · have hm := (if_neg h10).symm.trans hm
                  by_cases h11 : a0 = 3860
                  · have hm := (if_pos h11).symm.trans hm
                    refine lv_lookup (off := 130) (tgt := 131) hx hb dX10_has_1 (by decide) (by rw [h11]; decide) (by decide) ?_
                    refine lv_lconst (v := 0) hx hb dX10_has_131 (by decide) ?_
                    subst hm
                    exact eb_lret X hw rfl rfl rfl dX10_has_132
                  · have hm := (if_neg h11).symm.trans hm
                    refine lv_lookup (off := 132) (tgt := 133) hx hb dX10_has_1 (by decide) (by show Op.lookupswitch.offset [(768, 83), (832, 91), (833, 96), (834, 101), (835, 106), (928, 111), (930, 117), (2818, 124), (3860, 130)] _ _ = _; rw [lv_osw h1 (by decide)]; rw [lv_osw h2 (by decide)]; rw [lv_osw h3 (by decide)]; rw [lv_osw h4 (by decide)]; rw [lv_osw h5 (by decide)]; rw [lv_osw h6 (by decide)]; rw [lv_osw h8 (by decide)]; rw [lv_osw h10 (by decide)]; rw [lv_osw h11 (by decide)]; rfl) (by decide) ?_
                    refine lv_aload_n hx hb dX10_has_133 rfl (lv_at hl 0 rfl) ?_
                    refine lv_iload_n hx hb dX10_has_134 rfl (lv_at hl 1 rfl) ?_
                    refine lv_sipush (v := 944) hx hb dX10_has_135 (by decide) ?_
                    refine lv_isub hx hb dX10_has_138 ?_
                    obtain ⟨z12, qz12⟩ : ∃ t : Int64, t = m_X10_addressOf σ (a0 - 944) := ⟨_, rfl⟩
                    have hm : z12 = mm := by rw [qz12]; exact hm
                    have hc : eb_M l yX10_addressOf (Cond.code yX10_addressOf cX10_addressOf 2 (some .long) :: wsL_law) 2 42 D 18 cy rL ad σ [.ref (ad 0), .int (a0 - 944)] (some (.long z12)) σ := by rw [qz12]; exact c_X10_addressOf l D cy ad σ (a0 - 944) hj_ (l_X10_isCsr h0_ h1 h2 h3 h4 h5 h6 h8 h10 h11)
                    refine eb_callV (n := 1) (as := [.int (a0 - 944)]) (rest := []) X hw hl.1 0 hc (by decide) ⟨rfl, rfl, rfl⟩ (eb_goodV wi_31_19 wi_31_20 wi_31_21 wi_1_5 wi_31_22) rfl (by decide +kernel) ⟨by decide, by decide⟩ rfl rfl (Nat.le_of_ble_eq_true rfl) dX10_has_139 ⟨by decide, by decide⟩ (st' := [.long z12]) rfl (fun H locs hw => ?_)
                    subst hm
                    exact eb_lret X hw rfl rfl rfl dX10_has_142

theorem J_X10_write_143 : ∀ (n : Nat) (σ : eb_St) (v2 : Int64) (v4 : Int32) {mm : eb_St} (_ : (m_X10_write_143  n σ v2 v4) = mm) (hj_ : rJ σ) (i0_ : 0 ≤ v4.toInt) (hn : ((8 : Int32).toInt - v4.toInt).toNat < n), rJ mm := by
  intro n
  induction n with
  | zero => intro σ v2 v4 mm hm hj_ i0_ hn; exact absurd hn (Nat.not_lt_zero _)
  | succ n ih =>
    intro σ v2 v4 mm hm hj_ i0_ hn
    have hm : (if (8 : Int32) ≤ v4 then σ else (fun (x18 : Int32) => (fun (z19 : Bool) => (if (eb_b z19) = 0 then (if (x18 &&& 1) = 0 then (fun (x24 : Int32) => m_X10_write_143  n (eb_pI σ 4 ((8 + v4).toNatClampNeg) (x18 &&& (-3))) v2 x24) (v4 + 1) else (fun (x23 : Int32) => m_X10_write_143  n (eb_pI σ 4 ((8 + v4).toNatClampNeg) x18) v2 x23) (v4 + 1)) else (fun (x21 : Int32) => m_X10_write_143  n σ v2 x21) (v4 + 1))) (m_X10_isLocked σ (8 + v4))) (((eb_lshr v2 (8 * v4)).toInt32) &&& 159)) = mm := hm
    refine eb_em (c := (8 : Int32) ≤ v4) (fun h17 => ?_) (fun h17 => ?_)
    · have hm := (if_pos h17).symm.trans hm
      subst hm
      exact hj_
    · have hm := (if_neg h17).symm.trans hm
      obtain ⟨x18, ex18⟩ : ∃ z : Int32, z = ((eb_lshr v2 (8 * v4)).toInt32) &&& 159 := ⟨_, rfl⟩
      have hm : (fun (z19 : Bool) => (if (eb_b z19) = 0 then (if (x18 &&& 1) = 0 then (fun (x24 : Int32) => m_X10_write_143  n (eb_pI σ 4 ((8 + v4).toNatClampNeg) (x18 &&& (-3))) v2 x24) (v4 + 1) else (fun (x23 : Int32) => m_X10_write_143  n (eb_pI σ 4 ((8 + v4).toNatClampNeg) x18) v2 x23) (v4 + 1)) else (fun (x21 : Int32) => m_X10_write_143  n σ v2 x21) (v4 + 1))) (m_X10_isLocked σ (8 + v4)) = mm := by rw [ex18]; exact hm
      obtain ⟨z19, qz19⟩ : ∃ t : Bool, t = m_X10_isLocked σ (8 + v4) := ⟨_, rfl⟩
      have hm : (if (eb_b z19) = 0 then (if (x18 &&& 1) = 0 then (fun (x24 : Int32) => m_X10_write_143  n (eb_pI σ 4 ((8 + v4).toNatClampNeg) (x18 &&& (-3))) v2 x24) (v4 + 1) else (fun (x23 : Int32) => m_X10_write_143  n (eb_pI σ 4 ((8 + v4).toNatClampNeg) x18) v2 x23) (v4 + 1)) else (fun (x21 : Int32) => m_X10_write_143  n σ v2 x21) (v4 + 1)) = mm := by rw [qz19]; exact hm
      refine eb_emn (c := (eb_b z19) = 0) (fun h20 => ?_) (fun h20 => ?_)
      · have hm := (if_neg h20).symm.trans hm
        obtain ⟨x21, ex21⟩ : ∃ z : Int32, z = v4 + 1 := ⟨_, rfl⟩
        have hm : m_X10_write_143  n σ v2 x21 = mm := by rw [ex21]; exact hm
        exact ih σ v2 x21 hm hj_ (eb_up i0_ (eb_nle h17) ex21 hn).1 (eb_up i0_ (eb_nle h17) ex21 hn).2
      · have hm := (if_pos h20).symm.trans hm
        refine eb_emn (c := (x18 &&& 1) = 0) (fun h22 => ?_) (fun h22 => ?_)
        · have hm := (if_neg h22).symm.trans hm
          obtain ⟨x23, ex23⟩ : ∃ z : Int32, z = v4 + 1 := ⟨_, rfl⟩
          have hm : m_X10_write_143  n (eb_pI σ 4 ((8 + v4).toNatClampNeg) x18) v2 x23 = mm := by rw [ex23]; exact hm
          exact ih (eb_pI σ 4 ((8 + v4).toNatClampNeg) x18) v2 x23 hm hj_ (eb_up i0_ (eb_nle h17) ex23 hn).1 (eb_up i0_ (eb_nle h17) ex23 hn).2
        · have hm := (if_pos h22).symm.trans hm
          obtain ⟨x24, ex24⟩ : ∃ z : Int32, z = v4 + 1 := ⟨_, rfl⟩
          have hm : m_X10_write_143  n (eb_pI σ 4 ((8 + v4).toNatClampNeg) (x18 &&& (-3))) v2 x24 = mm := by rw [ex24]; exact hm
          exact ih (eb_pI σ 4 ((8 + v4).toNatClampNeg) (x18 &&& (-3))) v2 x24 hm hj_ (eb_up i0_ (eb_nle h17) ex24 hn).1 (eb_up i0_ (eb_nle h17) ex24 hn).2
theorem J_X10_write {σ : eb_St} {a0 : Int32} {a1 : Int64} {mm : eb_St} (hm : m_X10_write σ a0 a1 = mm) (hj_ : rJ σ) (h0_ : m_X10_isCsr a0 = true) (h1_ : ¬ a0 = 2818) (h2_ : ¬ a0 = 3860) : rJ mm := by
  have hm : (if a0 = 768 then (if ((eb_lshr a1 11) &&& 3) = 3 then eb_pJ (eb_pI σ 0 35 0) 0 15 3 else eb_pJ (eb_pI σ 0 35 0) 0 15 0) else if a0 = 832 then eb_pJ (eb_pI σ 0 35 0) 0 16 a1 else if a0 = 833 then eb_pJ (eb_pI σ 0 35 0) 0 17 (a1 &&& (-4)) else if a0 = 834 then eb_pJ (eb_pI σ 0 35 0) 0 18 a1 else if a0 = 835 then eb_pJ (eb_pI σ 0 35 0) 0 19 a1 else if a0 = 928 then eb_pI σ 0 35 0 else if a0 = 930 then m_X10_write_143  9 (eb_pI σ 0 35 0) a1 0 else (fun (x9 : Int32) => (if x9 < 8 then eb_pI σ 0 35 0 else (fun (z11 : Bool) => (if (eb_b z11) = 0 then (if (15 : Int32) ≤ x9 then eb_pJ (eb_pI σ 0 35 0) 5 x9.toNatClampNeg (a1 &&& 18014398509481983) else (fun (z14 : Bool) => (if (eb_b z14) = 0 then eb_pJ (eb_pI σ 0 35 0) 5 x9.toNatClampNeg (a1 &&& 18014398509481983) else (if ((((eb_pI σ 0 35 0).1 4 (x9 + 1).toNatClampNeg) >>> (3 &&& 31)) &&& 3) = 1 then eb_pI σ 0 35 0 else eb_pJ (eb_pI σ 0 35 0) 5 x9.toNatClampNeg (a1 &&& 18014398509481983)))) (m_X10_isLocked (eb_pI σ 0 35 0) (x9 + 1))) else eb_pI σ 0 35 0)) (m_X10_isLocked (eb_pI σ 0 35 0) x9))) (a0 - 944)) = mm := hm
  by_cases h1 : a0 = 768
  · have hm := (if_pos h1).symm.trans hm
    refine eb_emn (c := ((eb_lshr a1 11) &&& 3) = 3) (fun h2 => ?_) (fun h2 => ?_)
    · have hm := (if_neg h2).symm.trans hm
      subst hm
      exact hj_
    · have hm := (if_pos h2).symm.trans hm
      subst hm
      exact hj_
  · have hm := (if_neg h1).symm.trans hm
    by_cases h3 : a0 = 832
    · have hm := (if_pos h3).symm.trans hm
      subst hm
      exact hj_
    · have hm := (if_neg h3).symm.trans hm
      by_cases h4 : a0 = 833
      · have hm := (if_pos h4).symm.trans hm
        subst hm
        exact hj_
      · have hm := (if_neg h4).symm.trans hm
        by_cases h5 : a0 = 834
        · have hm := (if_pos h5).symm.trans hm
          subst hm
          exact hj_
        · have hm := (if_neg h5).symm.trans hm
          by_cases h6 : a0 = 835
          · have hm := (if_pos h6).symm.trans hm
            subst hm
            exact hj_
          · have hm := (if_neg h6).symm.trans hm
            by_cases h7 : a0 = 928
            · have hm := (if_pos h7).symm.trans hm
              subst hm
              exact hj_
            · have hm := (if_neg h7).symm.trans hm
              by_cases h8 : a0 = 930
              · have hm := (if_pos h8).symm.trans hm
                exact J_X10_write_143 9 (eb_pI σ 0 35 0) a1 0 hm hj_ (by decide) (by decide)
              · have hm := (if_neg h8).symm.trans hm
                obtain ⟨x9, ex9⟩ : ∃ z : Int32, z = a0 - 944 := ⟨_, rfl⟩
                have hm : (if x9 < 8 then eb_pI σ 0 35 0 else (fun (z11 : Bool) => (if (eb_b z11) = 0 then (if (15 : Int32) ≤ x9 then eb_pJ (eb_pI σ 0 35 0) 5 x9.toNatClampNeg (a1 &&& 18014398509481983) else (fun (z14 : Bool) => (if (eb_b z14) = 0 then eb_pJ (eb_pI σ 0 35 0) 5 x9.toNatClampNeg (a1 &&& 18014398509481983) else (if ((((eb_pI σ 0 35 0).1 4 (x9 + 1).toNatClampNeg) >>> (3 &&& 31)) &&& 3) = 1 then eb_pI σ 0 35 0 else eb_pJ (eb_pI σ 0 35 0) 5 x9.toNatClampNeg (a1 &&& 18014398509481983)))) (m_X10_isLocked (eb_pI σ 0 35 0) (x9 + 1))) else eb_pI σ 0 35 0)) (m_X10_isLocked (eb_pI σ 0 35 0) x9)) = mm := by rw [ex9]; exact hm
                refine eb_em (c := x9 < 8) (fun h10 => ?_) (fun h10 => ?_)
                · have hm := (if_pos h10).symm.trans hm
                  subst hm
                  exact hj_
                · have hm := (if_neg h10).symm.trans hm
                  obtain ⟨z11, qz11⟩ : ∃ t : Bool, t = m_X10_isLocked (eb_pI σ 0 35 0) x9 := ⟨_, rfl⟩
                  have hm : (if (eb_b z11) = 0 then (if (15 : Int32) ≤ x9 then eb_pJ (eb_pI σ 0 35 0) 5 x9.toNatClampNeg (a1 &&& 18014398509481983) else (fun (z14 : Bool) => (if (eb_b z14) = 0 then eb_pJ (eb_pI σ 0 35 0) 5 x9.toNatClampNeg (a1 &&& 18014398509481983) else (if ((((eb_pI σ 0 35 0).1 4 (x9 + 1).toNatClampNeg) >>> (3 &&& 31)) &&& 3) = 1 then eb_pI σ 0 35 0 else eb_pJ (eb_pI σ 0 35 0) 5 x9.toNatClampNeg (a1 &&& 18014398509481983)))) (m_X10_isLocked (eb_pI σ 0 35 0) (x9 + 1))) else eb_pI σ 0 35 0) = mm := by rw [qz11]; exact hm
                  refine eb_emn (c := (eb_b z11) = 0) (fun h12 => ?_) (fun h12 => ?_)
                  · have hm := (if_neg h12).symm.trans hm
                    subst hm
                    exact hj_
                  · have hm := (if_pos h12).symm.trans hm
                    refine eb_em (c := (15 : Int32) ≤ x9) (fun h13 => ?_) (fun h13 => ?_)
                    · have hm := (if_pos h13).symm.trans hm
                      subst hm
                      exact (show rJ (eb_pJ (eb_pI σ 0 35 0) 5 x9.toNatClampNeg (a1 &&& 18014398509481983)) from rJ_ad hj_ (eb_and54 _))
                    · have hm := (if_neg h13).symm.trans hm
                      obtain ⟨z14, qz14⟩ : ∃ t : Bool, t = m_X10_isLocked (eb_pI σ 0 35 0) (x9 + 1) := ⟨_, rfl⟩
                      have hm : (if (eb_b z14) = 0 then eb_pJ (eb_pI σ 0 35 0) 5 x9.toNatClampNeg (a1 &&& 18014398509481983) else (if ((((eb_pI σ 0 35 0).1 4 (x9 + 1).toNatClampNeg) >>> (3 &&& 31)) &&& 3) = 1 then eb_pI σ 0 35 0 else eb_pJ (eb_pI σ 0 35 0) 5 x9.toNatClampNeg (a1 &&& 18014398509481983))) = mm := by rw [qz14]; exact hm
                      refine eb_em (c := (eb_b z14) = 0) (fun h15 => ?_) (fun h15 => ?_)
                      · have hm := (if_pos h15).symm.trans hm
                        subst hm
                        exact (show rJ (eb_pJ (eb_pI σ 0 35 0) 5 x9.toNatClampNeg (a1 &&& 18014398509481983)) from rJ_ad hj_ (eb_and54 _))
                      · have hm := (if_neg h15).symm.trans hm
                        refine eb_emn (c := ((((eb_pI σ 0 35 0).1 4 (x9 + 1).toNatClampNeg) >>> (3 &&& 31)) &&& 3) = 1) (fun h16 => ?_) (fun h16 => ?_)
                        · have hm := (if_neg h16).symm.trans hm
                          subst hm
                          exact (show rJ (eb_pJ (eb_pI σ 0 35 0) 5 x9.toNatClampNeg (a1 &&& 18014398509481983)) from rJ_ad hj_ (eb_and54 _))
                        · have hm := (if_pos h16).symm.trans hm
                          subst hm
                          exact hj_
set_option maxHeartbeats 4000000 in
set_option maxRecDepth 100000 in
theorem k_X10_write_143 {p : Program} {l : Launch} {e : Env} {s : State} {m : MethodId} {args : Array Value} {below : List Frame} {meth : Method} {c : Code} {A : Nat → Prop} {D : va_G} {cy : Nat → ClassId} {ad : Nat → Nat} (X : eb_X p s m args meth c cX10_write 6 RX10 (Cond.code yX10_write cX10_write 6 none :: wsL_law) none D cy A)   : ∀ (n : Nat) (σ : eb_St) (v2 : Int64) (v4 : Int32) (hj_ : rJ σ) (i0_ : 0 ≤ v4.toInt) (hn : ((8 : Int32).toInt - v4.toInt).toNat < n) {H : Heap} {locs : List Loc} {ls : Array Slot} {mm : eb_St} (_ : (m_X10_write_143  n σ v2 v4) = mm) (hw : eb_H D 18 cy rL ad A s.heap σ H locs) (hl : lv_has ls 6 [(0, .ref (ad 0)), (2, .long v2), (4, .int v4)]), W p l e ({ frames := 1, cells := 0, slots := 0, locals := 21 } : Room) s m args below meth c H locs 0 0 (MQ below (eb_Q D 18 cy rL ad A (none) mm) args s 0 0 A) (F0 m 143 ls []) := by
  have hx := X.1.1
  have hb := X.1.2.1
  have hown := X.1.2.2.2.1
  have hts := X.1.2.2.2.2
  intro n
  induction n with
  | zero => intro σ v2 v4 hj_ i0_ hn; exact absurd hn (Nat.not_lt_zero _)
  | succ n ih =>
    intro σ v2 v4 hj_ i0_ hn H locs ls mm hm hw hl
    have hm : (if (8 : Int32) ≤ v4 then σ else (fun (x18 : Int32) => (fun (z19 : Bool) => (if (eb_b z19) = 0 then (if (x18 &&& 1) = 0 then (fun (x24 : Int32) => m_X10_write_143  n (eb_pI σ 4 ((8 + v4).toNatClampNeg) (x18 &&& (-3))) v2 x24) (v4 + 1) else (fun (x23 : Int32) => m_X10_write_143  n (eb_pI σ 4 ((8 + v4).toNatClampNeg) x18) v2 x23) (v4 + 1)) else (fun (x21 : Int32) => m_X10_write_143  n σ v2 x21) (v4 + 1))) (m_X10_isLocked σ (8 + v4))) (((eb_lshr v2 (8 * v4)).toInt32) &&& 159)) = mm := hm
    refine lv_iload hx hb dX10_write_143 (lv_at hl 2 rfl) ?_
    refine lv_bipush (v := 8) hx hb dX10_write_145 (by decide) ?_
    refine lv_icmp_ge (tgt := 209) hx hb dX10_write_147 (by decide) (fun h17 => ?_) (fun h17 => ?_)
    · have hm := (if_pos h17).symm.trans hm
      refine lv_goto (tgt := 294) hx hb dX10_write_209 (by decide) ?_
      subst hm
      exact eb_vret X hw rfl rfl dX10_write_294
    · have hm := (if_neg h17).symm.trans hm
      refine lv_lload_n hx hb dX10_write_150 rfl (lv_at hl 1 rfl) ?_
      refine lv_bipush (v := 8) hx hb dX10_write_151 (by decide) ?_
      refine lv_iload hx hb dX10_write_153 (lv_at hl 2 rfl) ?_
      refine lv_imul hx hb dX10_write_155 ?_
      refine lv_lshr (v := eb_lshr v2 (8 * v4)) hx hb dX10_write_156 rfl ?_
      refine lv_l2i (v := (eb_lshr v2 (8 * v4)).toInt32) hx hb dX10_write_157 rfl ?_
      refine lv_sipush (v := 159) hx hb dX10_write_158 (by decide) ?_
      refine lv_iand hx hb dX10_write_161 ?_
      refine lv_topi (fun x18 ex18 => ?_)
      have hm : (fun (z19 : Bool) => (if (eb_b z19) = 0 then (if (x18 &&& 1) = 0 then (fun (x24 : Int32) => m_X10_write_143  n (eb_pI σ 4 ((8 + v4).toNatClampNeg) (x18 &&& (-3))) v2 x24) (v4 + 1) else (fun (x23 : Int32) => m_X10_write_143  n (eb_pI σ 4 ((8 + v4).toNatClampNeg) x18) v2 x23) (v4 + 1)) else (fun (x21 : Int32) => m_X10_write_143  n σ v2 x21) (v4 + 1))) (m_X10_isLocked σ (8 + v4)) = mm := by rw [ex18]; exact hm
      refine lv_istore (lv' := [(5, .int x18), (0, .ref (ad 0)), (2, .long v2), (4, .int v4)]) hx hb dX10_write_162 hl (by decide) rfl (fun ls hl => ?_)
      refine lv_aload_n hx hb dX10_write_164 rfl (lv_at hl 1 rfl) ?_
      refine lv_bipush (v := 8) hx hb dX10_write_165 (by decide) ?_
      refine lv_iload hx hb dX10_write_167 (lv_at hl 3 rfl) ?_
      refine lv_iadd hx hb dX10_write_169 ?_
      obtain ⟨z19, qz19⟩ : ∃ t : Bool, t = m_X10_isLocked σ (8 + v4) := ⟨_, rfl⟩
      have hm : (if (eb_b z19) = 0 then (if (x18 &&& 1) = 0 then (fun (x24 : Int32) => m_X10_write_143  n (eb_pI σ 4 ((8 + v4).toNatClampNeg) (x18 &&& (-3))) v2 x24) (v4 + 1) else (fun (x23 : Int32) => m_X10_write_143  n (eb_pI σ 4 ((8 + v4).toNatClampNeg) x18) v2 x23) (v4 + 1)) else (fun (x21 : Int32) => m_X10_write_143  n σ v2 x21) (v4 + 1)) = mm := by rw [qz19]; exact hm
      have hc : eb_M l yX10_isLocked (Cond.code yX10_isLocked cX10_isLocked 2 (some .boolean) :: wsL_law) 0 0 D 18 cy rL ad σ [.ref (ad 0), .int (8 + v4)] (some (.int (eb_b z19))) σ := by rw [qz19]; exact c_X10_isLocked l D cy ad σ (8 + v4) (eb_in_off (k := 8) (eb_inU (by decide) i0_ (eb_nle h17)) (by decide) (by decide) (by decide))
      refine eb_callV (n := 1) (as := [.int (8 + v4)]) (rest := []) X hw hl.1 0 hc (by decide) ⟨rfl, rfl, rfl⟩ (eb_goodV wi_36_8 wi_36_9 wi_36_10 wi_1_5 wi_36_11) rfl (by decide +kernel) ⟨by decide, by decide⟩ rfl rfl (Nat.le_of_ble_eq_true rfl) dX10_write_170 ⟨by decide, by decide⟩ (st' := [.int (eb_b z19)]) rfl (fun H locs hw => ?_)
      refine lv_if_ne (tgt := 203) hx hb dX10_write_173 (by decide) (fun h20 => ?_) (fun h20 => ?_)
      · have hm := (if_neg h20).symm.trans hm
        obtain ⟨x21, ex21⟩ : ∃ z : Int32, z = v4 + 1 := ⟨_, rfl⟩
        have hm : m_X10_write_143  n σ v2 x21 = mm := by rw [ex21]; exact hm
        refine lv_iinc (v := x21) (lv' := [(4, .int x21), (5, .int x18), (0, .ref (ad 0)), (2, .long v2)]) hx hb dX10_write_203 hl (k := 3) rfl (by rw [ex21]; exact congrArg (v4 + ·) (by decide)) (by decide) rfl (fun ls hl => ?_)
        refine lv_goto (tgt := 143) hx hb dX10_write_206 (by decide) ?_
        exact ih σ v2 x21 hj_ (eb_up i0_ (eb_nle h17) ex21 hn).1 (eb_up i0_ (eb_nle h17) ex21 hn).2 hm hw (lv_sub hl [2, 3, 0] rfl)
      · have hm := (if_pos h20).symm.trans hm
        refine lv_aload_n hx hb dX10_write_176 rfl (lv_at hl 1 rfl) ?_
        refine eb_get (T := TX10) X hw 0 20 (by decide) ⟨rfl, rfl, rfl⟩ (by decide) (fun _ h => List.mem_cons_of_mem _ (inlX10 _ h)) (List.mem_cons_of_mem _ wi_5_14) (v := .ref (ad 4)) rfl dX10_write_177 ?_
        refine lv_bipush (v := 8) hx hb dX10_write_180 (by decide) ?_
        refine lv_iload hx hb dX10_write_182 (lv_at hl 3 rfl) ?_
        refine lv_iadd hx hb dX10_write_184 ?_
        refine lv_iload hx hb dX10_write_185 (lv_at hl 0 rfl) ?_
        refine lv_iconst (v := 1) hx hb dX10_write_187 (by decide) ?_
        refine lv_iand hx hb dX10_write_188 ?_
        refine lv_if_ne (tgt := 200) hx hb dX10_write_189 (by decide) (fun h22 => ?_) (fun h22 => ?_)
        · have hm := (if_neg h22).symm.trans hm
          refine lv_iload hx hb dX10_write_200 (lv_at hl 0 rfl) ?_
          refine eb_iast (n := 16) X hw 4 (by decide) rfl rfl (eb_in_off (k := 8) (eb_inU (by decide) i0_ (eb_nle h17)) (by decide) (by decide) (by decide)) dX10_write_202 (fun H locs hw => ?_)
          obtain ⟨x23, ex23⟩ : ∃ z : Int32, z = v4 + 1 := ⟨_, rfl⟩
          have hm : m_X10_write_143  n (eb_pI σ 4 ((8 + v4).toNatClampNeg) x18) v2 x23 = mm := by rw [ex23]; exact hm
          refine lv_iinc (v := x23) (lv' := [(4, .int x23), (5, .int x18), (0, .ref (ad 0)), (2, .long v2)]) hx hb dX10_write_203 hl (k := 3) rfl (by rw [ex23]; exact congrArg (v4 + ·) (by decide)) (by decide) rfl (fun ls hl => ?_)
          refine lv_goto (tgt := 143) hx hb dX10_write_206 (by decide) ?_
          exact ih (eb_pI σ 4 ((8 + v4).toNatClampNeg) x18) v2 x23 hj_ (eb_up i0_ (eb_nle h17) ex23 hn).1 (eb_up i0_ (eb_nle h17) ex23 hn).2 hm hw (lv_sub hl [2, 3, 0] rfl)
        · have hm := (if_pos h22).symm.trans hm
          refine lv_iload hx hb dX10_write_192 (lv_at hl 0 rfl) ?_
          refine lv_bipush (v := (-3)) hx hb dX10_write_194 (by decide) ?_
          refine lv_iand hx hb dX10_write_196 ?_
          refine lv_goto (tgt := 202) hx hb dX10_write_197 (by decide) ?_
          refine eb_iast (n := 16) X hw 4 (by decide) rfl rfl (eb_in_off (k := 8) (eb_inU (by decide) i0_ (eb_nle h17)) (by decide) (by decide) (by decide)) dX10_write_202 (fun H locs hw => ?_)
          obtain ⟨x24, ex24⟩ : ∃ z : Int32, z = v4 + 1 := ⟨_, rfl⟩
          have hm : m_X10_write_143  n (eb_pI σ 4 ((8 + v4).toNatClampNeg) (x18 &&& (-3))) v2 x24 = mm := by rw [ex24]; exact hm
          refine lv_iinc (v := x24) (lv' := [(4, .int x24), (5, .int x18), (0, .ref (ad 0)), (2, .long v2)]) hx hb dX10_write_203 hl (k := 3) rfl (by rw [ex24]; exact congrArg (v4 + ·) (by decide)) (by decide) rfl (fun ls hl => ?_)
          refine lv_goto (tgt := 143) hx hb dX10_write_206 (by decide) ?_
          exact ih (eb_pI σ 4 ((8 + v4).toNatClampNeg) (x18 &&& (-3))) v2 x24 hj_ (eb_up i0_ (eb_nle h17) ex24 hn).1 (eb_up i0_ (eb_nle h17) ex24 hn).2 hm hw (lv_sub hl [2, 3, 0] rfl)
set_option maxHeartbeats 4000000 in
set_option maxRecDepth 100000 in
theorem c_X10_write (l : Launch) (D : va_G) (cy : Nat → ClassId) (ad : Nat → Nat) (σ : eb_St) (a0 : Int32) (a1 : Int64) (hj_ : rJ σ) (h0_ : m_X10_isCsr a0 = true) (h1_ : ¬ a0 = 2818) (h2_ : ¬ a0 = 3860) : eb_M l yX10_write (Cond.code yX10_write cX10_write 6 none :: wsL_law) 1 21 D 18 cy rL ad σ [.ref (ad 0), .int a0, .long a1] (none) (m_X10_write σ a0 a1) := by
  refine eb_start (own := RX10) (by decide) rfl rfl (Nat.le_of_ble_eq_true rfl) ?_
  intro p e s m args below meth c A ls X hw hl
  have hl : lv_has ls 6 [(0, .ref (ad 0)), (1, .int a0), (2, .long a1)] := hl
  have hx := X.1.1
  have hb := X.1.2.1
  have hown := X.1.2.2.2.1
  have hts := X.1.2.2.2.2
  generalize hm : m_X10_write σ a0 a1 = mm
  have hm : (if a0 = 768 then (if ((eb_lshr a1 11) &&& 3) = 3 then eb_pJ (eb_pI σ 0 35 0) 0 15 3 else eb_pJ (eb_pI σ 0 35 0) 0 15 0) else if a0 = 832 then eb_pJ (eb_pI σ 0 35 0) 0 16 a1 else if a0 = 833 then eb_pJ (eb_pI σ 0 35 0) 0 17 (a1 &&& (-4)) else if a0 = 834 then eb_pJ (eb_pI σ 0 35 0) 0 18 a1 else if a0 = 835 then eb_pJ (eb_pI σ 0 35 0) 0 19 a1 else if a0 = 928 then eb_pI σ 0 35 0 else if a0 = 930 then m_X10_write_143  9 (eb_pI σ 0 35 0) a1 0 else (fun (x9 : Int32) => (if x9 < 8 then eb_pI σ 0 35 0 else (fun (z11 : Bool) => (if (eb_b z11) = 0 then (if (15 : Int32) ≤ x9 then eb_pJ (eb_pI σ 0 35 0) 5 x9.toNatClampNeg (a1 &&& 18014398509481983) else (fun (z14 : Bool) => (if (eb_b z14) = 0 then eb_pJ (eb_pI σ 0 35 0) 5 x9.toNatClampNeg (a1 &&& 18014398509481983) else (if ((((eb_pI σ 0 35 0).1 4 (x9 + 1).toNatClampNeg) >>> (3 &&& 31)) &&& 3) = 1 then eb_pI σ 0 35 0 else eb_pJ (eb_pI σ 0 35 0) 5 x9.toNatClampNeg (a1 &&& 18014398509481983)))) (m_X10_isLocked (eb_pI σ 0 35 0) (x9 + 1))) else eb_pI σ 0 35 0)) (m_X10_isLocked (eb_pI σ 0 35 0) x9))) (a0 - 944)) = mm := hm
  refine lv_aload_n hx hb dX10_write_0 rfl (lv_at hl 0 rfl) ?_
  refine lv_iconst (v := 0) hx hb dX10_write_1 (by decide) ?_
  refine eb_putI (T := TX10) X hw 0 35 (by decide) ⟨rfl, rfl, rfl⟩ (by decide) rfl (fun _ h => List.mem_cons_of_mem _ (inlX10 _ h)) (List.mem_cons_of_mem _ wi_9_21) tyX10 tyX10_ok nmX10 rfl rfl rfl dX10_write_2 (fun H locs hw => ?_)
  refine lv_iload_n hx hb dX10_write_5 rfl (lv_at hl 1 rfl) ?_
  by_cases h1 : a0 = 768
  · have hm := (if_pos h1).symm.trans hm
    refine lv_lookup (off := 66) (tgt := 72) hx hb dX10_write_6 (by decide) (by rw [h1]; decide) (by decide) ?_
    refine lv_aload_n hx hb dX10_write_72 rfl (lv_at hl 0 rfl) ?_
    refine lv_lload_n hx hb dX10_write_73 rfl (lv_at hl 2 rfl) ?_
    refine lv_bipush (v := 11) hx hb dX10_write_74 (by decide) ?_
    refine lv_lshr (v := eb_lshr a1 11) hx hb dX10_write_76 rfl ?_
    refine lv_ldc2 hx hb hown (hts _ (List.mem_cons_of_mem _ wi_30_7)) dX10_write_77 ?_
    refine lv_land hx hb dX10_write_80 ?_
    refine lv_ldc2 hx hb hown (hts _ (List.mem_cons_of_mem _ wi_30_7)) dX10_write_81 ?_
    refine eb_lif_ne (tgt := 94) hx hb dX10_write_84 dX10_write_85 (by decide) (fun h2 => ?_) (fun h2 => ?_)
    · have hm := (if_neg h2).symm.trans hm
      refine lv_lconst (v := 0) hx hb dX10_write_94 (by decide) ?_
      refine eb_putJ (T := TX10) X hw 0 15 (by decide) ⟨rfl, rfl, rfl⟩ (by decide) rfl (fun _ h => List.mem_cons_of_mem _ (inlX10 _ h)) (List.mem_cons_of_mem _ wi_9_16) tyX10 tyX10_ok nmX10 rfl rfl rfl dX10_write_95 (fun H locs hw => ?_)
      refine lv_goto (tgt := 294) hx hb dX10_write_98 (by decide) ?_
      subst hm
      exact eb_vret X hw rfl rfl dX10_write_294
    · have hm := (if_pos h2).symm.trans hm
      refine lv_ldc2 hx hb hown (hts _ (List.mem_cons_of_mem _ wi_30_7)) dX10_write_88 ?_
      refine lv_goto (tgt := 95) hx hb dX10_write_91 (by decide) ?_
      refine eb_putJ (T := TX10) X hw 0 15 (by decide) ⟨rfl, rfl, rfl⟩ (by decide) rfl (fun _ h => List.mem_cons_of_mem _ (inlX10 _ h)) (List.mem_cons_of_mem _ wi_9_16) tyX10 tyX10_ok nmX10 rfl rfl rfl dX10_write_95 (fun H locs hw => ?_)
      refine lv_goto (tgt := 294) hx hb dX10_write_98 (by decide) ?_
      subst hm
      exact eb_vret X hw rfl rfl dX10_write_294
  · have hm := (if_neg h1).symm.trans hm
    by_cases h3 : a0 = 832
    · have hm := (if_pos h3).symm.trans hm
      refine lv_lookup (off := 95) (tgt := 101) hx hb dX10_write_6 (by decide) (by rw [h3]; decide) (by decide) ?_
      refine lv_aload_n hx hb dX10_write_101 rfl (lv_at hl 0 rfl) ?_
      refine lv_lload_n hx hb dX10_write_102 rfl (lv_at hl 2 rfl) ?_
      refine eb_putJ (T := TX10) X hw 0 16 (by decide) ⟨rfl, rfl, rfl⟩ (by decide) rfl (fun _ h => List.mem_cons_of_mem _ (inlX10 _ h)) (List.mem_cons_of_mem _ wi_9_17) tyX10 tyX10_ok nmX10 rfl rfl rfl dX10_write_103 (fun H locs hw => ?_)
      refine lv_goto (tgt := 294) hx hb dX10_write_106 (by decide) ?_
      subst hm
      exact eb_vret X hw rfl rfl dX10_write_294
    · have hm := (if_neg h3).symm.trans hm
      by_cases h4 : a0 = 833
      · have hm := (if_pos h4).symm.trans hm
        refine lv_lookup (off := 103) (tgt := 109) hx hb dX10_write_6 (by decide) (by rw [h4]; decide) (by decide) ?_
        refine lv_aload_n hx hb dX10_write_109 rfl (lv_at hl 0 rfl) ?_
        refine lv_lload_n hx hb dX10_write_110 rfl (lv_at hl 2 rfl) ?_
        refine lv_ldc2 hx hb hown (hts _ (List.mem_cons_of_mem _ wi_36_7)) dX10_write_111 ?_
        refine lv_land hx hb dX10_write_114 ?_
        refine eb_putJ (T := TX10) X hw 0 17 (by decide) ⟨rfl, rfl, rfl⟩ (by decide) rfl (fun _ h => List.mem_cons_of_mem _ (inlX10 _ h)) (List.mem_cons_of_mem _ wi_9_18) tyX10 tyX10_ok nmX10 rfl rfl rfl dX10_write_115 (fun H locs hw => ?_)
        refine lv_goto (tgt := 294) hx hb dX10_write_118 (by decide) ?_
        subst hm
        exact eb_vret X hw rfl rfl dX10_write_294
      · have hm := (if_neg h4).symm.trans hm
        by_cases h5 : a0 = 834
        · have hm := (if_pos h5).symm.trans hm
          refine lv_lookup (off := 115) (tgt := 121) hx hb dX10_write_6 (by decide) (by rw [h5]; decide) (by decide) ?_
          refine lv_aload_n hx hb dX10_write_121 rfl (lv_at hl 0 rfl) ?_
          refine lv_lload_n hx hb dX10_write_122 rfl (lv_at hl 2 rfl) ?_
          refine eb_putJ (T := TX10) X hw 0 18 (by decide) ⟨rfl, rfl, rfl⟩ (by decide) rfl (fun _ h => List.mem_cons_of_mem _ (inlX10 _ h)) (List.mem_cons_of_mem _ wi_9_19) tyX10 tyX10_ok nmX10 rfl rfl rfl dX10_write_123 (fun H locs hw => ?_)
          refine lv_goto (tgt := 294) hx hb dX10_write_126 (by decide) ?_
          subst hm
          exact eb_vret X hw rfl rfl dX10_write_294
        · have hm := (if_neg h5).symm.trans hm
          by_cases h6 : a0 = 835
          · have hm := (if_pos h6).symm.trans hm
            refine lv_lookup (off := 123) (tgt := 129) hx hb dX10_write_6 (by decide) (by rw [h6]; decide) (by decide) ?_
            refine lv_aload_n hx hb dX10_write_129 rfl (lv_at hl 0 rfl) ?_
            refine lv_lload_n hx hb dX10_write_130 rfl (lv_at hl 2 rfl) ?_
            refine eb_putJ (T := TX10) X hw 0 19 (by decide) ⟨rfl, rfl, rfl⟩ (by decide) rfl (fun _ h => List.mem_cons_of_mem _ (inlX10 _ h)) (List.mem_cons_of_mem _ wi_9_20) tyX10 tyX10_ok nmX10 rfl rfl rfl dX10_write_131 (fun H locs hw => ?_)
            refine lv_goto (tgt := 294) hx hb dX10_write_134 (by decide) ?_
            subst hm
            exact eb_vret X hw rfl rfl dX10_write_294
          · have hm := (if_neg h6).symm.trans hm
            by_cases h7 : a0 = 928
            · have hm := (if_pos h7).symm.trans hm
              refine lv_lookup (off := 131) (tgt := 137) hx hb dX10_write_6 (by decide) (by rw [h7]; decide) (by decide) ?_
              refine lv_goto (tgt := 294) hx hb dX10_write_137 (by decide) ?_
              subst hm
              exact eb_vret X hw rfl rfl dX10_write_294
            · have hm := (if_neg h7).symm.trans hm
              by_cases h8 : a0 = 930
              · have hm := (if_pos h8).symm.trans hm
                refine lv_lookup (off := 134) (tgt := 140) hx hb dX10_write_6 (by decide) (by rw [h8]; decide) (by decide) ?_
                refine lv_iconst (v := 0) hx hb dX10_write_140 (by decide) ?_
                refine lv_istore (lv' := [(4, .int 0), (0, .ref (ad 0)), (1, .int a0), (2, .long a1)]) hx hb dX10_write_141 hl (by decide) rfl (fun ls hl => ?_)
                exact k_X10_write_143 X   9 (eb_pI σ 0 35 0) a1 0 hj_ (by decide) (by decide) hm hw (lv_sub hl [1, 3, 0] rfl)
              · have hm := (if_neg h8).symm.trans hm
                refine lv_lookup (off := 206) (tgt := 212) hx hb dX10_write_6 (by decide) (by show Op.lookupswitch.offset [(768, 66), (832, 95), (833, 103), (834, 115), (835, 123), (928, 131), (930, 134)] _ _ = _; rw [lv_osw h1 (by decide)]; rw [lv_osw h3 (by decide)]; rw [lv_osw h4 (by decide)]; rw [lv_osw h5 (by decide)]; rw [lv_osw h6 (by decide)]; rw [lv_osw h7 (by decide)]; rw [lv_osw h8 (by decide)]; rfl) (by decide) ?_
                refine lv_iload_n hx hb dX10_write_212 rfl (lv_at hl 1 rfl) ?_
                refine lv_sipush (v := 944) hx hb dX10_write_213 (by decide) ?_
                refine lv_isub hx hb dX10_write_216 ?_
                refine lv_topi (fun x9 ex9 => ?_)
                have hm : (if x9 < 8 then eb_pI σ 0 35 0 else (fun (z11 : Bool) => (if (eb_b z11) = 0 then (if (15 : Int32) ≤ x9 then eb_pJ (eb_pI σ 0 35 0) 5 x9.toNatClampNeg (a1 &&& 18014398509481983) else (fun (z14 : Bool) => (if (eb_b z14) = 0 then eb_pJ (eb_pI σ 0 35 0) 5 x9.toNatClampNeg (a1 &&& 18014398509481983) else (if ((((eb_pI σ 0 35 0).1 4 (x9 + 1).toNatClampNeg) >>> (3 &&& 31)) &&& 3) = 1 then eb_pI σ 0 35 0 else eb_pJ (eb_pI σ 0 35 0) 5 x9.toNatClampNeg (a1 &&& 18014398509481983)))) (m_X10_isLocked (eb_pI σ 0 35 0) (x9 + 1))) else eb_pI σ 0 35 0)) (m_X10_isLocked (eb_pI σ 0 35 0) x9)) = mm := by rw [ex9]; exact hm
                refine lv_istore (lv' := [(4, .int x9), (0, .ref (ad 0)), (1, .int a0), (2, .long a1)]) hx hb dX10_write_217 hl (by decide) rfl (fun ls hl => ?_)
                refine lv_iload hx hb dX10_write_219 (lv_at hl 0 rfl) ?_
                refine lv_bipush (v := 8) hx hb dX10_write_221 (by decide) ?_
                refine lv_icmp_lt (tgt := 270) hx hb dX10_write_223 (by decide) (fun h10 => ?_) (fun h10 => ?_)
                · have hm := (if_pos h10).symm.trans hm
                  refine lv_iconst (v := 1) hx hb dX10_write_270 (by decide) ?_
                  refine lv_goto (tgt := 275) hx hb dX10_write_271 (by decide) ?_
                  refine lv_istore (lv' := [(5, .int 1), (4, .int x9), (0, .ref (ad 0)), (1, .int a0), (2, .long a1)]) hx hb dX10_write_275 hl (by decide) rfl (fun ls hl => ?_)
                  refine lv_iload hx hb dX10_write_277 (lv_at hl 0 rfl) ?_
                  refine lv_if_ne (tgt := 294) hx hb dX10_write_279 (by decide) (fun _ => ?_) (fun hq => absurd hq (by decide))
                  subst hm
                  exact eb_vret X hw rfl rfl dX10_write_294
                · have hm := (if_neg h10).symm.trans hm
                  refine lv_aload_n hx hb dX10_write_226 rfl (lv_at hl 1 rfl) ?_
                  refine lv_iload hx hb dX10_write_227 (lv_at hl 0 rfl) ?_
                  obtain ⟨z11, qz11⟩ : ∃ t : Bool, t = m_X10_isLocked (eb_pI σ 0 35 0) x9 := ⟨_, rfl⟩
                  have hm : (if (eb_b z11) = 0 then (if (15 : Int32) ≤ x9 then eb_pJ (eb_pI σ 0 35 0) 5 x9.toNatClampNeg (a1 &&& 18014398509481983) else (fun (z14 : Bool) => (if (eb_b z14) = 0 then eb_pJ (eb_pI σ 0 35 0) 5 x9.toNatClampNeg (a1 &&& 18014398509481983) else (if ((((eb_pI σ 0 35 0).1 4 (x9 + 1).toNatClampNeg) >>> (3 &&& 31)) &&& 3) = 1 then eb_pI σ 0 35 0 else eb_pJ (eb_pI σ 0 35 0) 5 x9.toNatClampNeg (a1 &&& 18014398509481983)))) (m_X10_isLocked (eb_pI σ 0 35 0) (x9 + 1))) else eb_pI σ 0 35 0) = mm := by rw [qz11]; exact hm
                  have hc : eb_M l yX10_isLocked (Cond.code yX10_isLocked cX10_isLocked 2 (some .boolean) :: wsL_law) 0 0 D 18 cy rL ad (eb_pI σ 0 35 0) [.ref (ad 0), .int x9] (some (.int (eb_b z11))) (eb_pI σ 0 35 0) := by rw [qz11]; exact c_X10_isLocked l D cy ad (eb_pI σ 0 35 0) x9 (show vp_in x9 16 from by rw [ex9]; exact (l_X10_isCsr h0_ h1 h3 h4 h5 h6 h7 h8 h1_ h2_))
                  refine eb_callV (n := 1) (as := [.int x9]) (rest := []) X hw hl.1 0 hc (by decide) ⟨rfl, rfl, rfl⟩ (eb_goodV wi_36_8 wi_36_9 wi_36_10 wi_1_5 wi_36_11) rfl (by decide +kernel) ⟨by decide, by decide⟩ rfl rfl (Nat.le_of_ble_eq_true rfl) dX10_write_229 ⟨by decide, by decide⟩ (st' := [.int (eb_b z11)]) rfl (fun H locs hw => ?_)
                  refine lv_if_ne (tgt := 270) hx hb dX10_write_232 (by decide) (fun h12 => ?_) (fun h12 => ?_)
                  · have hm := (if_neg h12).symm.trans hm
                    refine lv_iconst (v := 1) hx hb dX10_write_270 (by decide) ?_
                    refine lv_goto (tgt := 275) hx hb dX10_write_271 (by decide) ?_
                    refine lv_istore (lv' := [(5, .int 1), (4, .int x9), (0, .ref (ad 0)), (1, .int a0), (2, .long a1)]) hx hb dX10_write_275 hl (by decide) rfl (fun ls hl => ?_)
                    refine lv_iload hx hb dX10_write_277 (lv_at hl 0 rfl) ?_
                    refine lv_if_ne (tgt := 294) hx hb dX10_write_279 (by decide) (fun _ => ?_) (fun hq => absurd hq (by decide))
                    subst hm
                    exact eb_vret X hw rfl rfl dX10_write_294
                  · have hm := (if_pos h12).symm.trans hm
                    refine lv_iload hx hb dX10_write_235 (lv_at hl 0 rfl) ?_
                    refine lv_bipush (v := 15) hx hb dX10_write_237 (by decide) ?_
                    refine lv_icmp_ge (tgt := 274) hx hb dX10_write_239 (by decide) (fun h13 => ?_) (fun h13 => ?_)
                    · have hm := (if_pos h13).symm.trans hm
                      refine lv_iconst (v := 0) hx hb dX10_write_274 (by decide) ?_
                      refine lv_istore (lv' := [(5, .int 0), (4, .int x9), (0, .ref (ad 0)), (1, .int a0), (2, .long a1)]) hx hb dX10_write_275 hl (by decide) rfl (fun ls hl => ?_)
                      refine lv_iload hx hb dX10_write_277 (lv_at hl 0 rfl) ?_
                      refine lv_if_ne (tgt := 294) hx hb dX10_write_279 (by decide) (fun hq => absurd (by decide) hq) (fun _ => ?_)
                      refine lv_aload_n hx hb dX10_write_282 rfl (lv_at hl 2 rfl) ?_
                      refine eb_get (T := TX10) X hw 0 21 (by decide) ⟨rfl, rfl, rfl⟩ (by decide) (fun _ h => List.mem_cons_of_mem _ (inlX10 _ h)) (List.mem_cons_of_mem _ wi_5_15) (v := .ref (ad 5)) rfl dX10_write_283 ?_
                      refine lv_iload hx hb dX10_write_286 (lv_at hl 1 rfl) ?_
                      refine lv_lload_n hx hb dX10_write_288 rfl (lv_at hl 4 rfl) ?_
                      refine lv_ldc2 hx hb hown (hts _ (List.mem_cons_of_mem _ wi_31_13)) dX10_write_289 ?_
                      refine lv_land hx hb dX10_write_292 ?_
                      refine eb_last (n := 16) X hw 5 (by decide) rfl rfl (show vp_in x9 16 from by rw [ex9]; exact (l_X10_isCsr h0_ h1 h3 h4 h5 h6 h7 h8 h1_ h2_)) dX10_write_293 (fun H locs hw => ?_)
                      subst hm
                      exact eb_vret X hw rfl rfl dX10_write_294
                    · have hm := (if_neg h13).symm.trans hm
                      refine lv_aload_n hx hb dX10_write_242 rfl (lv_at hl 1 rfl) ?_
                      refine lv_iload hx hb dX10_write_243 (lv_at hl 0 rfl) ?_
                      refine lv_iconst (v := 1) hx hb dX10_write_245 (by decide) ?_
                      refine lv_iadd hx hb dX10_write_246 ?_
                      obtain ⟨z14, qz14⟩ : ∃ t : Bool, t = m_X10_isLocked (eb_pI σ 0 35 0) (x9 + 1) := ⟨_, rfl⟩
                      have hm : (if (eb_b z14) = 0 then eb_pJ (eb_pI σ 0 35 0) 5 x9.toNatClampNeg (a1 &&& 18014398509481983) else (if ((((eb_pI σ 0 35 0).1 4 (x9 + 1).toNatClampNeg) >>> (3 &&& 31)) &&& 3) = 1 then eb_pI σ 0 35 0 else eb_pJ (eb_pI σ 0 35 0) 5 x9.toNatClampNeg (a1 &&& 18014398509481983))) = mm := by rw [qz14]; exact hm
                      have hc : eb_M l yX10_isLocked (Cond.code yX10_isLocked cX10_isLocked 2 (some .boolean) :: wsL_law) 0 0 D 18 cy rL ad (eb_pI σ 0 35 0) [.ref (ad 0), .int (x9 + 1)] (some (.int (eb_b z14))) (eb_pI σ 0 35 0) := by rw [qz14]; exact c_X10_isLocked l D cy ad (eb_pI σ 0 35 0) (x9 + 1) (eb_in_succ15 (show vp_in x9 16 from by rw [ex9]; exact (l_X10_isCsr h0_ h1 h3 h4 h5 h6 h7 h8 h1_ h2_)) h13)
                      refine eb_callV (n := 1) (as := [.int (x9 + 1)]) (rest := []) X hw hl.1 0 hc (by decide) ⟨rfl, rfl, rfl⟩ (eb_goodV wi_36_8 wi_36_9 wi_36_10 wi_1_5 wi_36_11) rfl (by decide +kernel) ⟨by decide, by decide⟩ rfl rfl (Nat.le_of_ble_eq_true rfl) dX10_write_247 ⟨by decide, by decide⟩ (st' := [.int (eb_b z14)]) rfl (fun H locs hw => ?_)
                      refine lv_if_eq (tgt := 274) hx hb dX10_write_250 (by decide) (fun h15 => ?_) (fun h15 => ?_)
                      · have hm := (if_pos h15).symm.trans hm
                        refine lv_iconst (v := 0) hx hb dX10_write_274 (by decide) ?_
                        refine lv_istore (lv' := [(5, .int 0), (4, .int x9), (0, .ref (ad 0)), (1, .int a0), (2, .long a1)]) hx hb dX10_write_275 hl (by decide) rfl (fun ls hl => ?_)
                        refine lv_iload hx hb dX10_write_277 (lv_at hl 0 rfl) ?_
                        refine lv_if_ne (tgt := 294) hx hb dX10_write_279 (by decide) (fun hq => absurd (by decide) hq) (fun _ => ?_)
                        refine lv_aload_n hx hb dX10_write_282 rfl (lv_at hl 2 rfl) ?_
                        refine eb_get (T := TX10) X hw 0 21 (by decide) ⟨rfl, rfl, rfl⟩ (by decide) (fun _ h => List.mem_cons_of_mem _ (inlX10 _ h)) (List.mem_cons_of_mem _ wi_5_15) (v := .ref (ad 5)) rfl dX10_write_283 ?_
                        refine lv_iload hx hb dX10_write_286 (lv_at hl 1 rfl) ?_
                        refine lv_lload_n hx hb dX10_write_288 rfl (lv_at hl 4 rfl) ?_
                        refine lv_ldc2 hx hb hown (hts _ (List.mem_cons_of_mem _ wi_31_13)) dX10_write_289 ?_
                        refine lv_land hx hb dX10_write_292 ?_
                        refine eb_last (n := 16) X hw 5 (by decide) rfl rfl (show vp_in x9 16 from by rw [ex9]; exact (l_X10_isCsr h0_ h1 h3 h4 h5 h6 h7 h8 h1_ h2_)) dX10_write_293 (fun H locs hw => ?_)
                        subst hm
                        exact eb_vret X hw rfl rfl dX10_write_294
                      · have hm := (if_neg h15).symm.trans hm
                        refine lv_aload_n hx hb dX10_write_253 rfl (lv_at hl 1 rfl) ?_
                        refine eb_get (T := TX10) X hw 0 20 (by decide) ⟨rfl, rfl, rfl⟩ (by decide) (fun _ h => List.mem_cons_of_mem _ (inlX10 _ h)) (List.mem_cons_of_mem _ wi_5_14) (v := .ref (ad 4)) rfl dX10_write_254 ?_
                        refine lv_iload hx hb dX10_write_257 (lv_at hl 0 rfl) ?_
                        refine lv_iconst (v := 1) hx hb dX10_write_259 (by decide) ?_
                        refine lv_iadd hx hb dX10_write_260 ?_
                        refine eb_iald (n := 16) X hw 4 (by decide) rfl rfl (eb_in_succ15 (show vp_in x9 16 from by rw [ex9]; exact (l_X10_isCsr h0_ h1 h3 h4 h5 h6 h7 h8 h1_ h2_)) h13) dX10_write_261 ?_
                        refine lv_iconst (v := 3) hx hb dX10_write_262 (by decide) ?_
                        refine lv_ishr hx hb dX10_write_263 ?_
                        refine lv_iconst (v := 3) hx hb dX10_write_264 (by decide) ?_
                        refine lv_iand hx hb dX10_write_265 ?_
                        refine lv_iconst (v := 1) hx hb dX10_write_266 (by decide) ?_
                        refine lv_icmp_ne (tgt := 274) hx hb dX10_write_267 (by decide) (fun h16 => ?_) (fun h16 => ?_)
                        · have hm := (if_neg h16).symm.trans hm
                          refine lv_iconst (v := 0) hx hb dX10_write_274 (by decide) ?_
                          refine lv_istore (lv' := [(5, .int 0), (4, .int x9), (0, .ref (ad 0)), (1, .int a0), (2, .long a1)]) hx hb dX10_write_275 hl (by decide) rfl (fun ls hl => ?_)
                          refine lv_iload hx hb dX10_write_277 (lv_at hl 0 rfl) ?_
                          refine lv_if_ne (tgt := 294) hx hb dX10_write_279 (by decide) (fun hq => absurd (by decide) hq) (fun _ => ?_)
                          refine lv_aload_n hx hb dX10_write_282 rfl (lv_at hl 2 rfl) ?_
                          refine eb_get (T := TX10) X hw 0 21 (by decide) ⟨rfl, rfl, rfl⟩ (by decide) (fun _ h => List.mem_cons_of_mem _ (inlX10 _ h)) (List.mem_cons_of_mem _ wi_5_15) (v := .ref (ad 5)) rfl dX10_write_283 ?_
                          refine lv_iload hx hb dX10_write_286 (lv_at hl 1 rfl) ?_
                          refine lv_lload_n hx hb dX10_write_288 rfl (lv_at hl 4 rfl) ?_
                          refine lv_ldc2 hx hb hown (hts _ (List.mem_cons_of_mem _ wi_31_13)) dX10_write_289 ?_
                          refine lv_land hx hb dX10_write_292 ?_
                          refine eb_last (n := 16) X hw 5 (by decide) rfl rfl (show vp_in x9 16 from by rw [ex9]; exact (l_X10_isCsr h0_ h1 h3 h4 h5 h6 h7 h8 h1_ h2_)) dX10_write_293 (fun H locs hw => ?_)
                          subst hm
                          exact eb_vret X hw rfl rfl dX10_write_294
                        · have hm := (if_pos h16).symm.trans hm
                          refine lv_iconst (v := 1) hx hb dX10_write_270 (by decide) ?_
                          refine lv_goto (tgt := 275) hx hb dX10_write_271 (by decide) ?_
                          refine lv_istore (lv' := [(5, .int 1), (4, .int x9), (0, .ref (ad 0)), (1, .int a0), (2, .long a1)]) hx hb dX10_write_275 hl (by decide) rfl (fun ls hl => ?_)
                          refine lv_iload hx hb dX10_write_277 (lv_at hl 0 rfl) ?_
                          refine lv_if_ne (tgt := 294) hx hb dX10_write_279 (by decide) (fun _ => ?_) (fun hq => absurd hq (by decide))
                          subst hm
                          exact eb_vret X hw rfl rfl dX10_write_294

theorem J_X10_csr_88 {σ : eb_St} {v1 : Int32} {v2 : Int64} {v4 : Int32} {mm : Int32 × eb_St} (hm : (m_X10_csr_88  σ v1 v2 v4) = mm) (hj_ : rJ σ) (hc_ : m_X10_isCsr v1 = true) (hw_ : ¬ v4 = 0 → ¬ v1 = 2818 ∧ ¬ v1 = 3860) : rJ mm.2 := by
  have hm : (fun (z14 : Int64) => (if v4 = 0 then (fun (z16 : Int32 × eb_St) => (z16.1, z16.2)) (m_X10_sets σ z14) else (if ((σ.1 0 41) &&& 3) = 1 then (fun (z23 : eb_St) => (fun (z24 : Int32 × eb_St) => (z24.1, z24.2)) (m_X10_sets z23 z14)) (m_X10_write σ v1 v2) else (if ((σ.1 0 41) &&& 3) = 2 then (fun (z21 : eb_St) => (fun (z22 : Int32 × eb_St) => (z22.1, z22.2)) (m_X10_sets z21 z14)) (m_X10_write σ v1 (z14 ||| v2)) else (fun (z19 : eb_St) => (fun (z20 : Int32 × eb_St) => (z20.1, z20.2)) (m_X10_sets z19 z14)) (m_X10_write σ v1 (z14 &&& (v2 ^^^ (-1)))))))) (m_X10_has σ v1) = mm := hm
  obtain ⟨z14, qz14⟩ : ∃ t : Int64, t = m_X10_has σ v1 := ⟨_, rfl⟩
  have hm : (if v4 = 0 then (fun (z16 : Int32 × eb_St) => (z16.1, z16.2)) (m_X10_sets σ z14) else (if ((σ.1 0 41) &&& 3) = 1 then (fun (z23 : eb_St) => (fun (z24 : Int32 × eb_St) => (z24.1, z24.2)) (m_X10_sets z23 z14)) (m_X10_write σ v1 v2) else (if ((σ.1 0 41) &&& 3) = 2 then (fun (z21 : eb_St) => (fun (z22 : Int32 × eb_St) => (z22.1, z22.2)) (m_X10_sets z21 z14)) (m_X10_write σ v1 (z14 ||| v2)) else (fun (z19 : eb_St) => (fun (z20 : Int32 × eb_St) => (z20.1, z20.2)) (m_X10_sets z19 z14)) (m_X10_write σ v1 (z14 &&& (v2 ^^^ (-1))))))) = mm := by rw [qz14]; exact hm
  refine eb_em (c := v4 = 0) (fun h15 => ?_) (fun h15 => ?_)
  · have hm := (if_pos h15).symm.trans hm
    obtain ⟨z16, qz16⟩ : ∃ t : Int32 × eb_St, t = m_X10_sets σ z14 := ⟨_, rfl⟩
    have hm : (z16.1, z16.2) = mm := by rw [qz16]; exact hm
    have jz16 : rJ z16.2 := J_X10_sets qz16.symm hj_
    subst hm
    exact jz16
  · have hm := (if_neg h15).symm.trans hm
    refine eb_emn (c := ((σ.1 0 41) &&& 3) = 1) (fun h17 => ?_) (fun h17 => ?_)
    · have hm := (if_neg h17).symm.trans hm
      refine eb_emn (c := ((σ.1 0 41) &&& 3) = 2) (fun h18 => ?_) (fun h18 => ?_)
      · have hm := (if_neg h18).symm.trans hm
        obtain ⟨z19, qz19⟩ : ∃ t : eb_St, t = m_X10_write σ v1 (z14 &&& (v2 ^^^ (-1))) := ⟨_, rfl⟩
        have hm : (fun (z20 : Int32 × eb_St) => (z20.1, z20.2)) (m_X10_sets z19 z14) = mm := by rw [qz19]; exact hm
        have jz19 : rJ z19 := J_X10_write qz19.symm hj_ hc_ (hw_ h15).1 (hw_ h15).2
        obtain ⟨z20, qz20⟩ : ∃ t : Int32 × eb_St, t = m_X10_sets z19 z14 := ⟨_, rfl⟩
        have hm : (z20.1, z20.2) = mm := by rw [qz20]; exact hm
        have jz20 : rJ z20.2 := J_X10_sets qz20.symm jz19
        subst hm
        exact jz20
      · have hm := (if_pos h18).symm.trans hm
        obtain ⟨z21, qz21⟩ : ∃ t : eb_St, t = m_X10_write σ v1 (z14 ||| v2) := ⟨_, rfl⟩
        have hm : (fun (z22 : Int32 × eb_St) => (z22.1, z22.2)) (m_X10_sets z21 z14) = mm := by rw [qz21]; exact hm
        have jz21 : rJ z21 := J_X10_write qz21.symm hj_ hc_ (hw_ h15).1 (hw_ h15).2
        obtain ⟨z22, qz22⟩ : ∃ t : Int32 × eb_St, t = m_X10_sets z21 z14 := ⟨_, rfl⟩
        have hm : (z22.1, z22.2) = mm := by rw [qz22]; exact hm
        have jz22 : rJ z22.2 := J_X10_sets qz22.symm jz21
        subst hm
        exact jz22
    · have hm := (if_pos h17).symm.trans hm
      obtain ⟨z23, qz23⟩ : ∃ t : eb_St, t = m_X10_write σ v1 v2 := ⟨_, rfl⟩
      have hm : (fun (z24 : Int32 × eb_St) => (z24.1, z24.2)) (m_X10_sets z23 z14) = mm := by rw [qz23]; exact hm
      have jz23 : rJ z23 := J_X10_write qz23.symm hj_ hc_ (hw_ h15).1 (hw_ h15).2
      obtain ⟨z24, qz24⟩ : ∃ t : Int32 × eb_St, t = m_X10_sets z23 z14 := ⟨_, rfl⟩
      have hm : (z24.1, z24.2) = mm := by rw [qz24]; exact hm
      have jz24 : rJ z24.2 := J_X10_sets qz24.symm jz23
      subst hm
      exact jz24
theorem J_X10_csr_55 {σ : eb_St} {v1 : Int32} {v2 : Int64} {s0 : Int32} {mm : Int32 × eb_St} (hm : (m_X10_csr_55  σ v1 v2 s0) = mm) (hj_ : rJ σ) : rJ mm.2 := by
  have hm : (fun (z6 : Bool) => (if (eb_b z6) = 0 then (fun (z8 : Int32 × eb_St) => (z8.1, z8.2)) (m_X10_illegal σ) else (if s0 = 0 then m_X10_csr_88  σ v1 v2 s0 else (if v1 = 2818 then (fun (z11 : Int32 × eb_St) => (z11.1, z11.2)) (m_X10_illegal σ) else (if v1 = 3860 then (fun (z13 : Int32 × eb_St) => (z13.1, z13.2)) (m_X10_illegal σ) else m_X10_csr_88  σ v1 v2 s0))))) (m_X10_isCsr v1) = mm := hm
  obtain ⟨z6, qz6⟩ : ∃ t : Bool, t = m_X10_isCsr v1 := ⟨_, rfl⟩
  have hm : (if (eb_b z6) = 0 then (fun (z8 : Int32 × eb_St) => (z8.1, z8.2)) (m_X10_illegal σ) else (if s0 = 0 then m_X10_csr_88  σ v1 v2 s0 else (if v1 = 2818 then (fun (z11 : Int32 × eb_St) => (z11.1, z11.2)) (m_X10_illegal σ) else (if v1 = 3860 then (fun (z13 : Int32 × eb_St) => (z13.1, z13.2)) (m_X10_illegal σ) else m_X10_csr_88  σ v1 v2 s0)))) = mm := by rw [qz6]; exact hm
  refine eb_em (c := (eb_b z6) = 0) (fun h7 => ?_) (fun h7 => ?_)
  · have hm := (if_pos h7).symm.trans hm
    obtain ⟨z8, qz8⟩ : ∃ t : Int32 × eb_St, t = m_X10_illegal σ := ⟨_, rfl⟩
    have hm : (z8.1, z8.2) = mm := by rw [qz8]; exact hm
    have jz8 : rJ z8.2 := J_X10_illegal qz8.symm hj_
    subst hm
    exact jz8
  · have hm := (if_neg h7).symm.trans hm
    refine eb_em (c := s0 = 0) (fun h9 => ?_) (fun h9 => ?_)
    · have hm := (if_pos h9).symm.trans hm
      exact J_X10_csr_88 hm hj_ (show m_X10_isCsr _ = true from by rw [← qz6]; exact eb_b_n0 h7) (fun q => absurd h9 q)
    · have hm := (if_neg h9).symm.trans hm
      refine eb_em (c := v1 = 2818) (fun h10 => ?_) (fun h10 => ?_)
      · have hm := (if_pos h10).symm.trans hm
        obtain ⟨z11, qz11⟩ : ∃ t : Int32 × eb_St, t = m_X10_illegal σ := ⟨_, rfl⟩
        have hm : (z11.1, z11.2) = mm := by rw [qz11]; exact hm
        have jz11 : rJ z11.2 := J_X10_illegal qz11.symm hj_
        subst hm
        exact jz11
      · have hm := (if_neg h10).symm.trans hm
        refine eb_emn (c := v1 = 3860) (fun h12 => ?_) (fun h12 => ?_)
        · have hm := (if_neg h12).symm.trans hm
          exact J_X10_csr_88 hm hj_ (show m_X10_isCsr _ = true from by rw [← qz6]; exact eb_b_n0 h7) (fun _ => ⟨h10, h12⟩)
        · have hm := (if_pos h12).symm.trans hm
          obtain ⟨z13, qz13⟩ : ∃ t : Int32 × eb_St, t = m_X10_illegal σ := ⟨_, rfl⟩
          have hm : (z13.1, z13.2) = mm := by rw [qz13]; exact hm
          have jz13 : rJ z13.2 := J_X10_illegal qz13.symm hj_
          subst hm
          exact jz13
theorem J_X10_csr_50 {σ : eb_St} {v1 : Int32} {v2 : Int64} {mm : Int32 × eb_St} (hm : (m_X10_csr_50  σ v1 v2) = mm) (hj_ : rJ σ) : rJ mm.2 := by
  have hm : m_X10_csr_55  σ v1 v2 1 = mm := hm
  exact J_X10_csr_55 hm hj_
theorem J_X10_csr_32 {σ : eb_St} {v1 : Int32} {s0 : Int64} {mm : Int32 × eb_St} (hm : (m_X10_csr_32  σ v1 s0) = mm) (hj_ : rJ σ) : rJ mm.2 := by
  have hm : (if ((σ.1 0 41) &&& 3) = 1 then m_X10_csr_50  σ v1 s0 else (if (σ.1 0 39) = 0 then m_X10_csr_55  σ v1 s0 0 else m_X10_csr_50  σ v1 s0)) = mm := hm
  refine eb_em (c := ((σ.1 0 41) &&& 3) = 1) (fun h4 => ?_) (fun h4 => ?_)
  · have hm := (if_pos h4).symm.trans hm
    exact J_X10_csr_50 hm hj_
  · have hm := (if_neg h4).symm.trans hm
    refine eb_em (c := (σ.1 0 39) = 0) (fun h5 => ?_) (fun h5 => ?_)
    · have hm := (if_pos h5).symm.trans hm
      exact J_X10_csr_55 hm hj_
    · have hm := (if_neg h5).symm.trans hm
      exact J_X10_csr_50 hm hj_
theorem J_X10_csr {σ : eb_St}  {mm : Int32 × eb_St} (hm : m_X10_csr σ = mm) (hj_ : rJ σ) : rJ mm.2 := by
  have hm : (fun (x1 : Int32) => (if (σ.1 0 41) ≤ 4 then (fun (z3 : Int64) => m_X10_csr_32  σ x1 z3) (m_X10_x σ (σ.1 0 39)) else m_X10_csr_32  σ x1 ((σ.1 0 39).toInt64))) (eb_iushr (σ.1 0 37) 20) = mm := hm
  obtain ⟨x1, ex1⟩ : ∃ z : Int32, z = eb_iushr (σ.1 0 37) 20 := ⟨_, rfl⟩
  have hm : (if (σ.1 0 41) ≤ 4 then (fun (z3 : Int64) => m_X10_csr_32  σ x1 z3) (m_X10_x σ (σ.1 0 39)) else m_X10_csr_32  σ x1 ((σ.1 0 39).toInt64)) = mm := by rw [ex1]; exact hm
  refine eb_em (c := (σ.1 0 41) ≤ 4) (fun h2 => ?_) (fun h2 => ?_)
  · have hm := (if_pos h2).symm.trans hm
    obtain ⟨z3, qz3⟩ : ∃ t : Int64, t = m_X10_x σ (σ.1 0 39) := ⟨_, rfl⟩
    have hm : m_X10_csr_32  σ x1 z3 = mm := by rw [qz3]; exact hm
    exact J_X10_csr_32 hm hj_
  · have hm := (if_neg h2).symm.trans hm
    exact J_X10_csr_32 hm hj_
set_option maxHeartbeats 4000000 in
set_option maxRecDepth 100000 in
theorem k_X10_csr_88 {p : Program} {l : Launch} {e : Env} {s : State} {m : MethodId} {args : Array Value} {below : List Frame} {meth : Method} {c : Code} {A : Nat → Prop} {H : Heap} {locs : List Loc} {ls : Array Slot} {D : va_G} {cy : Nat → ClassId} {ad : Nat → Nat} (X : eb_X p s m args meth c cX10_csr 7 RX10 (Cond.code yX10_csr cX10_csr 7 (some .int) :: wsL_law) (some .int) D cy A)   (σ : eb_St) (v1 : Int32) (v2 : Int64) (v4 : Int32) (hj_ : rJ σ) (hc_ : m_X10_isCsr v1 = true) (hw_ : ¬ v4 = 0 → ¬ v1 = 2818 ∧ ¬ v1 = 3860) {mm : Int32 × eb_St} (hm : (m_X10_csr_88  σ v1 v2 v4) = mm) (hw : eb_H D 18 cy rL ad A s.heap σ H locs) (hl : lv_has ls 7 [(0, .ref (ad 0)), (1, .int v1), (2, .long v2), (4, .int v4)]) : W p l e ({ frames := 4, cells := 0, slots := 0, locals := 87 } : Room) s m args below meth c H locs 0 0 (MQ below (eb_Q D 18 cy rL ad A (some (.int mm.1)) mm.2) args s 0 0 A) (F0 m 88 ls []) := by
  have hx := X.1.1
  have hb := X.1.2.1
  have hown := X.1.2.2.2.1
  have hts := X.1.2.2.2.2
  have hm : (fun (z14 : Int64) => (if v4 = 0 then (fun (z16 : Int32 × eb_St) => (z16.1, z16.2)) (m_X10_sets σ z14) else (if ((σ.1 0 41) &&& 3) = 1 then (fun (z23 : eb_St) => (fun (z24 : Int32 × eb_St) => (z24.1, z24.2)) (m_X10_sets z23 z14)) (m_X10_write σ v1 v2) else (if ((σ.1 0 41) &&& 3) = 2 then (fun (z21 : eb_St) => (fun (z22 : Int32 × eb_St) => (z22.1, z22.2)) (m_X10_sets z21 z14)) (m_X10_write σ v1 (z14 ||| v2)) else (fun (z19 : eb_St) => (fun (z20 : Int32 × eb_St) => (z20.1, z20.2)) (m_X10_sets z19 z14)) (m_X10_write σ v1 (z14 &&& (v2 ^^^ (-1)))))))) (m_X10_has σ v1) = mm := hm
  refine lv_aload_n hx hb dX10_csr_88 rfl (lv_at hl 0 rfl) ?_
  refine lv_iload_n hx hb dX10_csr_89 rfl (lv_at hl 1 rfl) ?_
  obtain ⟨z14, qz14⟩ : ∃ t : Int64, t = m_X10_has σ v1 := ⟨_, rfl⟩
  have hm : (if v4 = 0 then (fun (z16 : Int32 × eb_St) => (z16.1, z16.2)) (m_X10_sets σ z14) else (if ((σ.1 0 41) &&& 3) = 1 then (fun (z23 : eb_St) => (fun (z24 : Int32 × eb_St) => (z24.1, z24.2)) (m_X10_sets z23 z14)) (m_X10_write σ v1 v2) else (if ((σ.1 0 41) &&& 3) = 2 then (fun (z21 : eb_St) => (fun (z22 : Int32 × eb_St) => (z22.1, z22.2)) (m_X10_sets z21 z14)) (m_X10_write σ v1 (z14 ||| v2)) else (fun (z19 : eb_St) => (fun (z20 : Int32 × eb_St) => (z20.1, z20.2)) (m_X10_sets z19 z14)) (m_X10_write σ v1 (z14 &&& (v2 ^^^ (-1))))))) = mm := by rw [qz14]; exact hm
  have hc : eb_M l yX10_has (Cond.code yX10_has cX10_has 2 (some .long) :: wsL_law) 3 66 D 18 cy rL ad σ [.ref (ad 0), .int v1] (some (.long z14)) σ := by rw [qz14]; exact c_X10_has l D cy ad σ v1 hj_ hc_
  refine eb_callV (n := 1) (as := [.int v1]) (rest := []) X hw hl.1 0 hc (by decide) ⟨rfl, rfl, rfl⟩ (eb_goodV wi_35_19 wi_35_20 wi_35_21 wi_1_5 wi_35_22) rfl (by decide +kernel) ⟨by decide, by decide⟩ rfl rfl (Nat.le_of_ble_eq_true rfl) dX10_csr_90 ⟨by decide, by decide⟩ (st' := [.long z14]) rfl (fun H locs hw => ?_)
  refine lv_lstore (lv' := [(5, .long z14), (0, .ref (ad 0)), (1, .int v1), (2, .long v2), (4, .int v4)]) hx hb dX10_csr_93 hl (by decide) rfl (fun ls hl => ?_)
  refine lv_iload hx hb dX10_csr_95 (lv_at hl 4 rfl) ?_
  refine lv_if_eq (tgt := 144) hx hb dX10_csr_97 (by decide) (fun h15 => ?_) (fun h15 => ?_)
  · have hm := (if_pos h15).symm.trans hm
    refine lv_aload_n hx hb dX10_csr_144 rfl (lv_at hl 1 rfl) ?_
    refine lv_lload hx hb dX10_csr_145 (lv_at hl 0 rfl) ?_
    obtain ⟨z16, qz16⟩ : ∃ t : Int32 × eb_St, t = m_X10_sets σ z14 := ⟨_, rfl⟩
    have hm : (z16.1, z16.2) = mm := by rw [qz16]; exact hm
    have jz16 : rJ z16.2 := J_X10_sets qz16.symm hj_
    have hc : eb_M l yX10_sets (Cond.code yX10_sets cX10_sets 3 (some .int) :: wsL_law) 2 43 D 18 cy rL ad σ [.ref (ad 0), .long z14] (some (.int z16.1)) z16.2 := by rw [qz16]; exact c_X10_sets l D cy ad σ z14 hj_
    refine eb_callV (n := 1) (as := [.long z14]) (rest := []) X hw hl.1 0 hc (by decide) ⟨rfl, rfl, rfl⟩ (eb_goodV wi_32_2 wi_32_3 wi_32_4 wi_1_5 wi_32_5) rfl (by decide +kernel) ⟨by decide, by decide⟩ rfl rfl (Nat.le_of_ble_eq_true rfl) dX10_csr_147 ⟨by decide, by decide⟩ (st' := [.int z16.1]) rfl (fun H locs hw => ?_)
    subst hm
    exact eb_iret X hw rfl rfl rfl dX10_csr_150
  · have hm := (if_neg h15).symm.trans hm
    refine lv_aload_n hx hb dX10_csr_100 rfl (lv_at hl 1 rfl) ?_
    refine lv_iload_n hx hb dX10_csr_101 rfl (lv_at hl 2 rfl) ?_
    refine lv_aload_n hx hb dX10_csr_102 rfl (lv_at hl 1 rfl) ?_
    refine eb_get (T := TX10) X hw 0 41 (by decide) ⟨rfl, rfl, rfl⟩ (by decide) (fun _ h => List.mem_cons_of_mem _ (inlX10 _ h)) (List.mem_cons_of_mem _ wi_30_10) (v := .int (σ.1 0 41)) rfl dX10_csr_103 ?_
    refine lv_iconst (v := 3) hx hb dX10_csr_106 (by decide) ?_
    refine lv_iand hx hb dX10_csr_107 ?_
    refine lv_iconst (v := 1) hx hb dX10_csr_108 (by decide) ?_
    refine lv_icmp_ne (tgt := 116) hx hb dX10_csr_109 (by decide) (fun h17 => ?_) (fun h17 => ?_)
    · have hm := (if_neg h17).symm.trans hm
      refine lv_aload_n hx hb dX10_csr_116 rfl (lv_at hl 1 rfl) ?_
      refine eb_get (T := TX10) X hw 0 41 (by decide) ⟨rfl, rfl, rfl⟩ (by decide) (fun _ h => List.mem_cons_of_mem _ (inlX10 _ h)) (List.mem_cons_of_mem _ wi_30_10) (v := .int (σ.1 0 41)) rfl dX10_csr_117 ?_
      refine lv_iconst (v := 3) hx hb dX10_csr_120 (by decide) ?_
      refine lv_iand hx hb dX10_csr_121 ?_
      refine lv_iconst (v := 2) hx hb dX10_csr_122 (by decide) ?_
      refine lv_icmp_ne (tgt := 133) hx hb dX10_csr_123 (by decide) (fun h18 => ?_) (fun h18 => ?_)
      · have hm := (if_neg h18).symm.trans hm
        refine lv_lload hx hb dX10_csr_133 (lv_at hl 0 rfl) ?_
        refine lv_lload_n hx hb dX10_csr_135 rfl (lv_at hl 3 rfl) ?_
        refine lv_ldc2 hx hb hown (hts _ (List.mem_cons_of_mem _ wi_34_17)) dX10_csr_136 ?_
        refine lv_lxor hx hb dX10_csr_139 ?_
        refine lv_land hx hb dX10_csr_140 ?_
        obtain ⟨z19, qz19⟩ : ∃ t : eb_St, t = m_X10_write σ v1 (z14 &&& (v2 ^^^ (-1))) := ⟨_, rfl⟩
        have hm : (fun (z20 : Int32 × eb_St) => (z20.1, z20.2)) (m_X10_sets z19 z14) = mm := by rw [qz19]; exact hm
        have jz19 : rJ z19 := J_X10_write qz19.symm hj_ hc_ (hw_ h15).1 (hw_ h15).2
        have hc : eb_M l yX10_write (Cond.code yX10_write cX10_write 6 none :: wsL_law) 1 21 D 18 cy rL ad σ [.ref (ad 0), .int v1, .long (z14 &&& (v2 ^^^ (-1)))] (none) z19 := by rw [qz19]; exact c_X10_write l D cy ad σ v1 (z14 &&& (v2 ^^^ (-1))) hj_ hc_ (hw_ h15).1 (hw_ h15).2
        refine eb_callV (n := 2) (as := [.int v1, .long (z14 &&& (v2 ^^^ (-1)))]) (rest := []) X hw hl.1 0 hc (by decide) ⟨rfl, rfl, rfl⟩ (eb_goodV wi_36_3 wi_36_4 wi_36_5 wi_1_5 wi_36_6) rfl (by decide +kernel) ⟨by decide, by decide⟩ rfl rfl (Nat.le_of_ble_eq_true rfl) dX10_csr_141 ⟨by decide, by decide⟩ (st' := []) rfl (fun H locs hw => ?_)
        refine lv_aload_n hx hb dX10_csr_144 rfl (lv_at hl 1 rfl) ?_
        refine lv_lload hx hb dX10_csr_145 (lv_at hl 0 rfl) ?_
        obtain ⟨z20, qz20⟩ : ∃ t : Int32 × eb_St, t = m_X10_sets z19 z14 := ⟨_, rfl⟩
        have hm : (z20.1, z20.2) = mm := by rw [qz20]; exact hm
        have jz20 : rJ z20.2 := J_X10_sets qz20.symm jz19
        have hc : eb_M l yX10_sets (Cond.code yX10_sets cX10_sets 3 (some .int) :: wsL_law) 2 43 D 18 cy rL ad z19 [.ref (ad 0), .long z14] (some (.int z20.1)) z20.2 := by rw [qz20]; exact c_X10_sets l D cy ad z19 z14 jz19
        refine eb_callV (n := 1) (as := [.long z14]) (rest := []) X hw hl.1 0 hc (by decide) ⟨rfl, rfl, rfl⟩ (eb_goodV wi_32_2 wi_32_3 wi_32_4 wi_1_5 wi_32_5) rfl (by decide +kernel) ⟨by decide, by decide⟩ rfl rfl (Nat.le_of_ble_eq_true rfl) dX10_csr_147 ⟨by decide, by decide⟩ (st' := [.int z20.1]) rfl (fun H locs hw => ?_)
        subst hm
        exact eb_iret X hw rfl rfl rfl dX10_csr_150
      · have hm := (if_pos h18).symm.trans hm
        refine lv_lload hx hb dX10_csr_126 (lv_at hl 0 rfl) ?_
        refine lv_lload_n hx hb dX10_csr_128 rfl (lv_at hl 3 rfl) ?_
        refine lv_lor hx hb dX10_csr_129 ?_
        refine lv_goto (tgt := 141) hx hb dX10_csr_130 (by decide) ?_
        obtain ⟨z21, qz21⟩ : ∃ t : eb_St, t = m_X10_write σ v1 (z14 ||| v2) := ⟨_, rfl⟩
        have hm : (fun (z22 : Int32 × eb_St) => (z22.1, z22.2)) (m_X10_sets z21 z14) = mm := by rw [qz21]; exact hm
        have jz21 : rJ z21 := J_X10_write qz21.symm hj_ hc_ (hw_ h15).1 (hw_ h15).2
        have hc : eb_M l yX10_write (Cond.code yX10_write cX10_write 6 none :: wsL_law) 1 21 D 18 cy rL ad σ [.ref (ad 0), .int v1, .long (z14 ||| v2)] (none) z21 := by rw [qz21]; exact c_X10_write l D cy ad σ v1 (z14 ||| v2) hj_ hc_ (hw_ h15).1 (hw_ h15).2
        refine eb_callV (n := 2) (as := [.int v1, .long (z14 ||| v2)]) (rest := []) X hw hl.1 0 hc (by decide) ⟨rfl, rfl, rfl⟩ (eb_goodV wi_36_3 wi_36_4 wi_36_5 wi_1_5 wi_36_6) rfl (by decide +kernel) ⟨by decide, by decide⟩ rfl rfl (Nat.le_of_ble_eq_true rfl) dX10_csr_141 ⟨by decide, by decide⟩ (st' := []) rfl (fun H locs hw => ?_)
        refine lv_aload_n hx hb dX10_csr_144 rfl (lv_at hl 1 rfl) ?_
        refine lv_lload hx hb dX10_csr_145 (lv_at hl 0 rfl) ?_
        obtain ⟨z22, qz22⟩ : ∃ t : Int32 × eb_St, t = m_X10_sets z21 z14 := ⟨_, rfl⟩
        have hm : (z22.1, z22.2) = mm := by rw [qz22]; exact hm
        have jz22 : rJ z22.2 := J_X10_sets qz22.symm jz21
        have hc : eb_M l yX10_sets (Cond.code yX10_sets cX10_sets 3 (some .int) :: wsL_law) 2 43 D 18 cy rL ad z21 [.ref (ad 0), .long z14] (some (.int z22.1)) z22.2 := by rw [qz22]; exact c_X10_sets l D cy ad z21 z14 jz21
        refine eb_callV (n := 1) (as := [.long z14]) (rest := []) X hw hl.1 0 hc (by decide) ⟨rfl, rfl, rfl⟩ (eb_goodV wi_32_2 wi_32_3 wi_32_4 wi_1_5 wi_32_5) rfl (by decide +kernel) ⟨by decide, by decide⟩ rfl rfl (Nat.le_of_ble_eq_true rfl) dX10_csr_147 ⟨by decide, by decide⟩ (st' := [.int z22.1]) rfl (fun H locs hw => ?_)
        subst hm
        exact eb_iret X hw rfl rfl rfl dX10_csr_150
    · have hm := (if_pos h17).symm.trans hm
      refine lv_lload_n hx hb dX10_csr_112 rfl (lv_at hl 3 rfl) ?_
      refine lv_goto (tgt := 141) hx hb dX10_csr_113 (by decide) ?_
      obtain ⟨z23, qz23⟩ : ∃ t : eb_St, t = m_X10_write σ v1 v2 := ⟨_, rfl⟩
      have hm : (fun (z24 : Int32 × eb_St) => (z24.1, z24.2)) (m_X10_sets z23 z14) = mm := by rw [qz23]; exact hm
      have jz23 : rJ z23 := J_X10_write qz23.symm hj_ hc_ (hw_ h15).1 (hw_ h15).2
      have hc : eb_M l yX10_write (Cond.code yX10_write cX10_write 6 none :: wsL_law) 1 21 D 18 cy rL ad σ [.ref (ad 0), .int v1, .long v2] (none) z23 := by rw [qz23]; exact c_X10_write l D cy ad σ v1 v2 hj_ hc_ (hw_ h15).1 (hw_ h15).2
      refine eb_callV (n := 2) (as := [.int v1, .long v2]) (rest := []) X hw hl.1 0 hc (by decide) ⟨rfl, rfl, rfl⟩ (eb_goodV wi_36_3 wi_36_4 wi_36_5 wi_1_5 wi_36_6) rfl (by decide +kernel) ⟨by decide, by decide⟩ rfl rfl (Nat.le_of_ble_eq_true rfl) dX10_csr_141 ⟨by decide, by decide⟩ (st' := []) rfl (fun H locs hw => ?_)
      refine lv_aload_n hx hb dX10_csr_144 rfl (lv_at hl 1 rfl) ?_
      refine lv_lload hx hb dX10_csr_145 (lv_at hl 0 rfl) ?_
      obtain ⟨z24, qz24⟩ : ∃ t : Int32 × eb_St, t = m_X10_sets z23 z14 := ⟨_, rfl⟩
      have hm : (z24.1, z24.2) = mm := by rw [qz24]; exact hm
      have jz24 : rJ z24.2 := J_X10_sets qz24.symm jz23
      have hc : eb_M l yX10_sets (Cond.code yX10_sets cX10_sets 3 (some .int) :: wsL_law) 2 43 D 18 cy rL ad z23 [.ref (ad 0), .long z14] (some (.int z24.1)) z24.2 := by rw [qz24]; exact c_X10_sets l D cy ad z23 z14 jz23
      refine eb_callV (n := 1) (as := [.long z14]) (rest := []) X hw hl.1 0 hc (by decide) ⟨rfl, rfl, rfl⟩ (eb_goodV wi_32_2 wi_32_3 wi_32_4 wi_1_5 wi_32_5) rfl (by decide +kernel) ⟨by decide, by decide⟩ rfl rfl (Nat.le_of_ble_eq_true rfl) dX10_csr_147 ⟨by decide, by decide⟩ (st' := [.int z24.1]) rfl (fun H locs hw => ?_)
      subst hm
      exact eb_iret X hw rfl rfl rfl dX10_csr_150
set_option maxHeartbeats 4000000 in
set_option maxRecDepth 100000 in
theorem k_X10_csr_55 {p : Program} {l : Launch} {e : Env} {s : State} {m : MethodId} {args : Array Value} {below : List Frame} {meth : Method} {c : Code} {A : Nat → Prop} {H : Heap} {locs : List Loc} {ls : Array Slot} {D : va_G} {cy : Nat → ClassId} {ad : Nat → Nat} (X : eb_X p s m args meth c cX10_csr 7 RX10 (Cond.code yX10_csr cX10_csr 7 (some .int) :: wsL_law) (some .int) D cy A)   (σ : eb_St) (v1 : Int32) (v2 : Int64) (s0 : Int32) (hj_ : rJ σ) {mm : Int32 × eb_St} (hm : (m_X10_csr_55  σ v1 v2 s0) = mm) (hw : eb_H D 18 cy rL ad A s.heap σ H locs) (hl : lv_has ls 7 [(0, .ref (ad 0)), (1, .int v1), (2, .long v2)]) : W p l e ({ frames := 4, cells := 0, slots := 0, locals := 87 } : Room) s m args below meth c H locs 0 0 (MQ below (eb_Q D 18 cy rL ad A (some (.int mm.1)) mm.2) args s 0 0 A) (F0 m 55 ls [.int s0]) := by
  have hx := X.1.1
  have hb := X.1.2.1
  have hown := X.1.2.2.2.1
  have hts := X.1.2.2.2.2
  have hm : (fun (z6 : Bool) => (if (eb_b z6) = 0 then (fun (z8 : Int32 × eb_St) => (z8.1, z8.2)) (m_X10_illegal σ) else (if s0 = 0 then m_X10_csr_88  σ v1 v2 s0 else (if v1 = 2818 then (fun (z11 : Int32 × eb_St) => (z11.1, z11.2)) (m_X10_illegal σ) else (if v1 = 3860 then (fun (z13 : Int32 × eb_St) => (z13.1, z13.2)) (m_X10_illegal σ) else m_X10_csr_88  σ v1 v2 s0))))) (m_X10_isCsr v1) = mm := hm
  refine lv_istore (lv' := [(4, .int s0), (0, .ref (ad 0)), (1, .int v1), (2, .long v2)]) hx hb dX10_csr_55 hl (by decide) rfl (fun ls hl => ?_)
  refine lv_iload_n hx hb dX10_csr_57 rfl (lv_at hl 2 rfl) ?_
  obtain ⟨z6, qz6⟩ : ∃ t : Bool, t = m_X10_isCsr v1 := ⟨_, rfl⟩
  have hm : (if (eb_b z6) = 0 then (fun (z8 : Int32 × eb_St) => (z8.1, z8.2)) (m_X10_illegal σ) else (if s0 = 0 then m_X10_csr_88  σ v1 v2 s0 else (if v1 = 2818 then (fun (z11 : Int32 × eb_St) => (z11.1, z11.2)) (m_X10_illegal σ) else (if v1 = 3860 then (fun (z13 : Int32 × eb_St) => (z13.1, z13.2)) (m_X10_illegal σ) else m_X10_csr_88  σ v1 v2 s0)))) = mm := by rw [qz6]; exact hm
  have hc : eb_M l yX10_isCsr (Cond.code yX10_isCsr cX10_isCsr 1 (some .boolean) :: wsL_law) 1 25 D 18 cy rL ad σ [.int v1] (some (.int (eb_b z6))) σ := by rw [qz6]; exact c_X10_isCsr l D cy ad σ v1
  refine eb_callS (n := 1) X hw hl.1 (rest := []) hc (eb_goodS wi_35_12 wi_35_13 wi_1_5 wi_35_14) rfl (by decide +kernel) ⟨by decide, by decide⟩ rfl rfl (Nat.le_of_ble_eq_true rfl) dX10_csr_58 ⟨by decide, by decide⟩ (st' := [.int (eb_b z6)]) rfl (fun H locs hw => ?_)
  refine lv_if_eq (tgt := 83) hx hb dX10_csr_61 (by decide) (fun h7 => ?_) (fun h7 => ?_)
  · have hm := (if_pos h7).symm.trans hm
    refine lv_aload_n hx hb dX10_csr_83 rfl (lv_at hl 1 rfl) ?_
    obtain ⟨z8, qz8⟩ : ∃ t : Int32 × eb_St, t = m_X10_illegal σ := ⟨_, rfl⟩
    have hm : (z8.1, z8.2) = mm := by rw [qz8]; exact hm
    have jz8 : rJ z8.2 := J_X10_illegal qz8.symm hj_
    have hc : eb_M l yX10_illegal (Cond.code yX10_illegal cX10_illegal 1 (some .int) :: wsL_law) 1 23 D 18 cy rL ad σ [.ref (ad 0)] (some (.int z8.1)) z8.2 := by rw [qz8]; exact c_X10_illegal l D cy ad σ hj_
    refine eb_callV (n := 0) (as := []) (rest := []) X hw hl.1 0 hc (by decide) ⟨rfl, rfl, rfl⟩ (eb_goodV wi_32_23 wi_33_0 wi_33_1 wi_1_5 wi_33_2) rfl (by decide +kernel) ⟨by decide, by decide⟩ rfl rfl (Nat.le_of_ble_eq_true rfl) dX10_csr_84 ⟨by decide, by decide⟩ (st' := [.int z8.1]) rfl (fun H locs hw => ?_)
    subst hm
    exact eb_iret X hw rfl rfl rfl dX10_csr_87
  · have hm := (if_neg h7).symm.trans hm
    refine lv_iload hx hb dX10_csr_64 (lv_at hl 0 rfl) ?_
    refine lv_if_eq (tgt := 88) hx hb dX10_csr_66 (by decide) (fun h9 => ?_) (fun h9 => ?_)
    · have hm := (if_pos h9).symm.trans hm
      exact k_X10_csr_88 X   σ v1 v2 s0 hj_ (show m_X10_isCsr _ = true from by rw [← qz6]; exact eb_b_n0 h7) (fun q => absurd h9 q) hm hw (lv_sub hl [1, 2, 3, 0] rfl)
    · have hm := (if_neg h9).symm.trans hm
      refine lv_iload_n hx hb dX10_csr_69 rfl (lv_at hl 2 rfl) ?_
      refine lv_sipush (v := 2818) hx hb dX10_csr_70 (by decide) ?_
      refine lv_icmp_eq (tgt := 83) hx hb dX10_csr_73 (by decide) (fun h10 => ?_) (fun h10 => ?_)
      · have hm := (if_pos h10).symm.trans hm
        refine lv_aload_n hx hb dX10_csr_83 rfl (lv_at hl 1 rfl) ?_
        obtain ⟨z11, qz11⟩ : ∃ t : Int32 × eb_St, t = m_X10_illegal σ := ⟨_, rfl⟩
        have hm : (z11.1, z11.2) = mm := by rw [qz11]; exact hm
        have jz11 : rJ z11.2 := J_X10_illegal qz11.symm hj_
        have hc : eb_M l yX10_illegal (Cond.code yX10_illegal cX10_illegal 1 (some .int) :: wsL_law) 1 23 D 18 cy rL ad σ [.ref (ad 0)] (some (.int z11.1)) z11.2 := by rw [qz11]; exact c_X10_illegal l D cy ad σ hj_
        refine eb_callV (n := 0) (as := []) (rest := []) X hw hl.1 0 hc (by decide) ⟨rfl, rfl, rfl⟩ (eb_goodV wi_32_23 wi_33_0 wi_33_1 wi_1_5 wi_33_2) rfl (by decide +kernel) ⟨by decide, by decide⟩ rfl rfl (Nat.le_of_ble_eq_true rfl) dX10_csr_84 ⟨by decide, by decide⟩ (st' := [.int z11.1]) rfl (fun H locs hw => ?_)
        subst hm
        exact eb_iret X hw rfl rfl rfl dX10_csr_87
      · have hm := (if_neg h10).symm.trans hm
        refine lv_iload_n hx hb dX10_csr_76 rfl (lv_at hl 2 rfl) ?_
        refine lv_sipush (v := 3860) hx hb dX10_csr_77 (by decide) ?_
        refine lv_icmp_ne (tgt := 88) hx hb dX10_csr_80 (by decide) (fun h12 => ?_) (fun h12 => ?_)
        · have hm := (if_neg h12).symm.trans hm
          exact k_X10_csr_88 X   σ v1 v2 s0 hj_ (show m_X10_isCsr _ = true from by rw [← qz6]; exact eb_b_n0 h7) (fun _ => ⟨h10, h12⟩) hm hw (lv_sub hl [1, 2, 3, 0] rfl)
        · have hm := (if_pos h12).symm.trans hm
          refine lv_aload_n hx hb dX10_csr_83 rfl (lv_at hl 1 rfl) ?_
          obtain ⟨z13, qz13⟩ : ∃ t : Int32 × eb_St, t = m_X10_illegal σ := ⟨_, rfl⟩
          have hm : (z13.1, z13.2) = mm := by rw [qz13]; exact hm
          have jz13 : rJ z13.2 := J_X10_illegal qz13.symm hj_
          have hc : eb_M l yX10_illegal (Cond.code yX10_illegal cX10_illegal 1 (some .int) :: wsL_law) 1 23 D 18 cy rL ad σ [.ref (ad 0)] (some (.int z13.1)) z13.2 := by rw [qz13]; exact c_X10_illegal l D cy ad σ hj_
          refine eb_callV (n := 0) (as := []) (rest := []) X hw hl.1 0 hc (by decide) ⟨rfl, rfl, rfl⟩ (eb_goodV wi_32_23 wi_33_0 wi_33_1 wi_1_5 wi_33_2) rfl (by decide +kernel) ⟨by decide, by decide⟩ rfl rfl (Nat.le_of_ble_eq_true rfl) dX10_csr_84 ⟨by decide, by decide⟩ (st' := [.int z13.1]) rfl (fun H locs hw => ?_)
          subst hm
          exact eb_iret X hw rfl rfl rfl dX10_csr_87
set_option maxHeartbeats 4000000 in
set_option maxRecDepth 100000 in
theorem k_X10_csr_50 {p : Program} {l : Launch} {e : Env} {s : State} {m : MethodId} {args : Array Value} {below : List Frame} {meth : Method} {c : Code} {A : Nat → Prop} {H : Heap} {locs : List Loc} {ls : Array Slot} {D : va_G} {cy : Nat → ClassId} {ad : Nat → Nat} (X : eb_X p s m args meth c cX10_csr 7 RX10 (Cond.code yX10_csr cX10_csr 7 (some .int) :: wsL_law) (some .int) D cy A)   (σ : eb_St) (v1 : Int32) (v2 : Int64) (hj_ : rJ σ) {mm : Int32 × eb_St} (hm : (m_X10_csr_50  σ v1 v2) = mm) (hw : eb_H D 18 cy rL ad A s.heap σ H locs) (hl : lv_has ls 7 [(0, .ref (ad 0)), (1, .int v1), (2, .long v2)]) : W p l e ({ frames := 4, cells := 0, slots := 0, locals := 87 } : Room) s m args below meth c H locs 0 0 (MQ below (eb_Q D 18 cy rL ad A (some (.int mm.1)) mm.2) args s 0 0 A) (F0 m 50 ls []) := by
  have hx := X.1.1
  have hb := X.1.2.1
  have hown := X.1.2.2.2.1
  have hts := X.1.2.2.2.2
  have hm : m_X10_csr_55  σ v1 v2 1 = mm := hm
  refine lv_iconst (v := 1) hx hb dX10_csr_50 (by decide) ?_
  refine lv_goto (tgt := 55) hx hb dX10_csr_51 (by decide) ?_
  exact k_X10_csr_55 X   σ v1 v2 1 hj_ hm hw (lv_sub hl [0, 1, 2] rfl)
set_option maxHeartbeats 4000000 in
set_option maxRecDepth 100000 in
theorem k_X10_csr_32 {p : Program} {l : Launch} {e : Env} {s : State} {m : MethodId} {args : Array Value} {below : List Frame} {meth : Method} {c : Code} {A : Nat → Prop} {H : Heap} {locs : List Loc} {ls : Array Slot} {D : va_G} {cy : Nat → ClassId} {ad : Nat → Nat} (X : eb_X p s m args meth c cX10_csr 7 RX10 (Cond.code yX10_csr cX10_csr 7 (some .int) :: wsL_law) (some .int) D cy A)   (σ : eb_St) (v1 : Int32) (s0 : Int64) (hj_ : rJ σ) {mm : Int32 × eb_St} (hm : (m_X10_csr_32  σ v1 s0) = mm) (hw : eb_H D 18 cy rL ad A s.heap σ H locs) (hl : lv_has ls 7 [(0, .ref (ad 0)), (1, .int v1)]) : W p l e ({ frames := 4, cells := 0, slots := 0, locals := 87 } : Room) s m args below meth c H locs 0 0 (MQ below (eb_Q D 18 cy rL ad A (some (.int mm.1)) mm.2) args s 0 0 A) (F0 m 32 ls [.long s0]) := by
  have hx := X.1.1
  have hb := X.1.2.1
  have hown := X.1.2.2.2.1
  have hts := X.1.2.2.2.2
  have hm : (if ((σ.1 0 41) &&& 3) = 1 then m_X10_csr_50  σ v1 s0 else (if (σ.1 0 39) = 0 then m_X10_csr_55  σ v1 s0 0 else m_X10_csr_50  σ v1 s0)) = mm := hm
  refine lv_lstore_n (lv' := [(2, .long s0), (0, .ref (ad 0)), (1, .int v1)]) hx hb dX10_csr_32 rfl hl (by decide) rfl (fun ls hl => ?_)
  refine lv_aload_n hx hb dX10_csr_33 rfl (lv_at hl 1 rfl) ?_
  refine eb_get (T := TX10) X hw 0 41 (by decide) ⟨rfl, rfl, rfl⟩ (by decide) (fun _ h => List.mem_cons_of_mem _ (inlX10 _ h)) (List.mem_cons_of_mem _ wi_30_10) (v := .int (σ.1 0 41)) rfl dX10_csr_34 ?_
  refine lv_iconst (v := 3) hx hb dX10_csr_37 (by decide) ?_
  refine lv_iand hx hb dX10_csr_38 ?_
  refine lv_iconst (v := 1) hx hb dX10_csr_39 (by decide) ?_
  refine lv_icmp_eq (tgt := 50) hx hb dX10_csr_40 (by decide) (fun h4 => ?_) (fun h4 => ?_)
  · have hm := (if_pos h4).symm.trans hm
    exact k_X10_csr_50 X   σ v1 s0 hj_ hm hw (lv_sub hl [1, 2, 0] rfl)
  · have hm := (if_neg h4).symm.trans hm
    refine lv_aload_n hx hb dX10_csr_43 rfl (lv_at hl 1 rfl) ?_
    refine eb_get (T := TX10) X hw 0 39 (by decide) ⟨rfl, rfl, rfl⟩ (by decide) (fun _ h => List.mem_cons_of_mem _ (inlX10 _ h)) (List.mem_cons_of_mem _ wi_30_11) (v := .int (σ.1 0 39)) rfl dX10_csr_44 ?_
    refine lv_if_eq (tgt := 54) hx hb dX10_csr_47 (by decide) (fun h5 => ?_) (fun h5 => ?_)
    · have hm := (if_pos h5).symm.trans hm
      refine lv_iconst (v := 0) hx hb dX10_csr_54 (by decide) ?_
      exact k_X10_csr_55 X   σ v1 s0 0 hj_ hm hw (lv_sub hl [1, 2, 0] rfl)
    · have hm := (if_neg h5).symm.trans hm
      exact k_X10_csr_50 X   σ v1 s0 hj_ hm hw (lv_sub hl [1, 2, 0] rfl)
set_option maxHeartbeats 4000000 in
set_option maxRecDepth 100000 in
theorem c_X10_csr (l : Launch) (D : va_G) (cy : Nat → ClassId) (ad : Nat → Nat) (σ : eb_St)  (hj_ : rJ σ) : eb_M l yX10_csr (Cond.code yX10_csr cX10_csr 7 (some .int) :: wsL_law) 4 87 D 18 cy rL ad σ [.ref (ad 0)] (some (.int (m_X10_csr σ).1)) ((m_X10_csr σ).2) := by
  refine eb_start (own := RX10) (by decide) rfl rfl (Nat.le_of_ble_eq_true rfl) ?_
  intro p e s m args below meth c A ls X hw hl
  have hl : lv_has ls 7 [(0, .ref (ad 0))] := hl
  have hx := X.1.1
  have hb := X.1.2.1
  have hown := X.1.2.2.2.1
  have hts := X.1.2.2.2.2
  generalize hm : m_X10_csr σ = mm
  have hm : (fun (x1 : Int32) => (if (σ.1 0 41) ≤ 4 then (fun (z3 : Int64) => m_X10_csr_32  σ x1 z3) (m_X10_x σ (σ.1 0 39)) else m_X10_csr_32  σ x1 ((σ.1 0 39).toInt64))) (eb_iushr (σ.1 0 37) 20) = mm := hm
  refine lv_aload_n hx hb dX10_csr_0 rfl (lv_at hl 0 rfl) ?_
  refine eb_get (T := TX10) X hw 0 37 (by decide) ⟨rfl, rfl, rfl⟩ (by decide) (fun _ h => List.mem_cons_of_mem _ (inlX10 _ h)) (List.mem_cons_of_mem _ wi_30_8) (v := .int (σ.1 0 37)) rfl dX10_csr_1 ?_
  refine lv_bipush (v := 20) hx hb dX10_csr_4 (by decide) ?_
  refine lv_iushr (v := eb_iushr (σ.1 0 37) 20) hx hb dX10_csr_6 rfl ?_
  refine lv_topi (fun x1 ex1 => ?_)
  have hm : (if (σ.1 0 41) ≤ 4 then (fun (z3 : Int64) => m_X10_csr_32  σ x1 z3) (m_X10_x σ (σ.1 0 39)) else m_X10_csr_32  σ x1 ((σ.1 0 39).toInt64)) = mm := by rw [ex1]; exact hm
  refine lv_istore_n (lv' := [(1, .int x1), (0, .ref (ad 0))]) hx hb dX10_csr_7 rfl hl (by decide) rfl (fun ls hl => ?_)
  refine lv_aload_n hx hb dX10_csr_8 rfl (lv_at hl 1 rfl) ?_
  refine eb_get (T := TX10) X hw 0 41 (by decide) ⟨rfl, rfl, rfl⟩ (by decide) (fun _ h => List.mem_cons_of_mem _ (inlX10 _ h)) (List.mem_cons_of_mem _ wi_30_10) (v := .int (σ.1 0 41)) rfl dX10_csr_9 ?_
  refine lv_iconst (v := 4) hx hb dX10_csr_12 (by decide) ?_
  refine lv_icmp_le (tgt := 24) hx hb dX10_csr_13 (by decide) (fun h2 => ?_) (fun h2 => ?_)
  · have hm := (if_pos h2).symm.trans hm
    refine lv_aload_n hx hb dX10_csr_24 rfl (lv_at hl 1 rfl) ?_
    refine lv_aload_n hx hb dX10_csr_25 rfl (lv_at hl 1 rfl) ?_
    refine eb_get (T := TX10) X hw 0 39 (by decide) ⟨rfl, rfl, rfl⟩ (by decide) (fun _ h => List.mem_cons_of_mem _ (inlX10 _ h)) (List.mem_cons_of_mem _ wi_30_11) (v := .int (σ.1 0 39)) rfl dX10_csr_26 ?_
    obtain ⟨z3, qz3⟩ : ∃ t : Int64, t = m_X10_x σ (σ.1 0 39) := ⟨_, rfl⟩
    have hm : m_X10_csr_32  σ x1 z3 = mm := by rw [qz3]; exact hm
    have hc : eb_M l yX10_x (Cond.code yX10_x cX10_x 2 (some .long) :: wsL_law) 1 20 D 18 cy rL ad σ [.ref (ad 0), .int (σ.1 0 39)] (some (.long z3)) σ := by rw [qz3]; exact c_X10_x l D cy ad σ (σ.1 0 39) hj_ hj_.2.2.2.1
    refine eb_callV (n := 1) (as := [.int (σ.1 0 39)]) (rest := []) X hw hl.1 0 hc (by decide) ⟨rfl, rfl, rfl⟩ (eb_goodV wi_33_4 wi_33_5 wi_33_6 wi_1_5 wi_33_7) rfl (by decide +kernel) ⟨by decide, by decide⟩ rfl rfl (Nat.le_of_ble_eq_true rfl) dX10_csr_29 ⟨by decide, by decide⟩ (st' := [.long z3]) rfl (fun H locs hw => ?_)
    exact k_X10_csr_32 X   σ x1 z3 hj_ hm hw (lv_sub hl [1, 0] rfl)
  · have hm := (if_neg h2).symm.trans hm
    refine lv_aload_n hx hb dX10_csr_16 rfl (lv_at hl 1 rfl) ?_
    refine eb_get (T := TX10) X hw 0 39 (by decide) ⟨rfl, rfl, rfl⟩ (by decide) (fun _ h => List.mem_cons_of_mem _ (inlX10 _ h)) (List.mem_cons_of_mem _ wi_30_11) (v := .int (σ.1 0 39)) rfl dX10_csr_17 ?_
    refine lv_i2l (v := (σ.1 0 39).toInt64) hx hb dX10_csr_20 rfl ?_
    refine lv_goto (tgt := 32) hx hb dX10_csr_21 (by decide) ?_
    exact k_X10_csr_32 X   σ x1 ((σ.1 0 39).toInt64) hj_ hm hw (lv_sub hl [1, 0] rfl)

theorem J_X10_enclaveCalls {σ : eb_St}  {mm : eb_St} (hm : m_X10_enclaveCalls σ = mm) (hj_ : rJ σ) (h0_ : vp_in (σ.1 0 8) 6) : rJ mm := by
  have hm : (fun (x1 : Int32) => (fun (z2 : Int64) => (if z2 = 1 then (fun (z16 : Int64) => (fun (z17 : eb_St) => z17) (m_X10_ends σ 2 0 z16)) (m_X10_x σ 10) else (if z2 = 2 then (fun (z14 : Int64) => (fun (z15 : eb_St) => z15) (m_X10_give σ 10 z14)) (m_X10_key σ x1) else (if z2 = 3 then (fun (z7 : eb_St) => (fun (z8 : eb_St) => (if (z8.1 11 x1.toNatClampNeg) = 0 then (fun (z12 : eb_St) => (fun (z13 : eb_St) => z13) (m_X10_give z12 13 ((z12.1 11 x1.toNatClampNeg).toInt64))) (m_X10_give z8 12 0) else (fun (z10 : eb_St) => (fun (z11 : eb_St) => z11) (m_X10_give z10 13 ((z10.1 11 x1.toNatClampNeg).toInt64))) (m_X10_give z8 12 ((z8.1 10 x1.toNatClampNeg).toInt64)))) (m_X10_give z7 11 ((z7.1 8 x1.toNatClampNeg).toInt64))) (m_X10_give σ 10 ((σ.1 7 x1.toNatClampNeg).toInt64)) else (fun (z6 : eb_St) => z6) (m_X10_give σ 10 (-1)))))) (m_X10_x σ 17)) (σ.1 0 8) = mm := hm
  obtain ⟨x1, ex1⟩ : ∃ z : Int32, z = σ.1 0 8 := ⟨_, rfl⟩
  have hm : (fun (z2 : Int64) => (if z2 = 1 then (fun (z16 : Int64) => (fun (z17 : eb_St) => z17) (m_X10_ends σ 2 0 z16)) (m_X10_x σ 10) else (if z2 = 2 then (fun (z14 : Int64) => (fun (z15 : eb_St) => z15) (m_X10_give σ 10 z14)) (m_X10_key σ x1) else (if z2 = 3 then (fun (z7 : eb_St) => (fun (z8 : eb_St) => (if (z8.1 11 x1.toNatClampNeg) = 0 then (fun (z12 : eb_St) => (fun (z13 : eb_St) => z13) (m_X10_give z12 13 ((z12.1 11 x1.toNatClampNeg).toInt64))) (m_X10_give z8 12 0) else (fun (z10 : eb_St) => (fun (z11 : eb_St) => z11) (m_X10_give z10 13 ((z10.1 11 x1.toNatClampNeg).toInt64))) (m_X10_give z8 12 ((z8.1 10 x1.toNatClampNeg).toInt64)))) (m_X10_give z7 11 ((z7.1 8 x1.toNatClampNeg).toInt64))) (m_X10_give σ 10 ((σ.1 7 x1.toNatClampNeg).toInt64)) else (fun (z6 : eb_St) => z6) (m_X10_give σ 10 (-1)))))) (m_X10_x σ 17) = mm := by rw [ex1]; exact hm
  obtain ⟨z2, qz2⟩ : ∃ t : Int64, t = m_X10_x σ 17 := ⟨_, rfl⟩
  have hm : (if z2 = 1 then (fun (z16 : Int64) => (fun (z17 : eb_St) => z17) (m_X10_ends σ 2 0 z16)) (m_X10_x σ 10) else (if z2 = 2 then (fun (z14 : Int64) => (fun (z15 : eb_St) => z15) (m_X10_give σ 10 z14)) (m_X10_key σ x1) else (if z2 = 3 then (fun (z7 : eb_St) => (fun (z8 : eb_St) => (if (z8.1 11 x1.toNatClampNeg) = 0 then (fun (z12 : eb_St) => (fun (z13 : eb_St) => z13) (m_X10_give z12 13 ((z12.1 11 x1.toNatClampNeg).toInt64))) (m_X10_give z8 12 0) else (fun (z10 : eb_St) => (fun (z11 : eb_St) => z11) (m_X10_give z10 13 ((z10.1 11 x1.toNatClampNeg).toInt64))) (m_X10_give z8 12 ((z8.1 10 x1.toNatClampNeg).toInt64)))) (m_X10_give z7 11 ((z7.1 8 x1.toNatClampNeg).toInt64))) (m_X10_give σ 10 ((σ.1 7 x1.toNatClampNeg).toInt64)) else (fun (z6 : eb_St) => z6) (m_X10_give σ 10 (-1))))) = mm := by rw [qz2]; exact hm
  refine eb_emn (c := z2 = 1) (fun h3 => ?_) (fun h3 => ?_)
  · have hm := (if_neg h3).symm.trans hm
    refine eb_emn (c := z2 = 2) (fun h4 => ?_) (fun h4 => ?_)
    · have hm := (if_neg h4).symm.trans hm
      refine eb_emn (c := z2 = 3) (fun h5 => ?_) (fun h5 => ?_)
      · have hm := (if_neg h5).symm.trans hm
        obtain ⟨z6, qz6⟩ : ∃ t : eb_St, t = m_X10_give σ 10 (-1) := ⟨_, rfl⟩
        have hm : z6 = mm := by rw [qz6]; exact hm
        have jz6 : rJ z6 := J_X10_give qz6.symm hj_ (vp_in_iff.mpr ⟨by decide, by decide⟩)
        subst hm
        exact jz6
      · have hm := (if_pos h5).symm.trans hm
        obtain ⟨z7, qz7⟩ : ∃ t : eb_St, t = m_X10_give σ 10 ((σ.1 7 x1.toNatClampNeg).toInt64) := ⟨_, rfl⟩
        have hm : (fun (z8 : eb_St) => (if (z8.1 11 x1.toNatClampNeg) = 0 then (fun (z12 : eb_St) => (fun (z13 : eb_St) => z13) (m_X10_give z12 13 ((z12.1 11 x1.toNatClampNeg).toInt64))) (m_X10_give z8 12 0) else (fun (z10 : eb_St) => (fun (z11 : eb_St) => z11) (m_X10_give z10 13 ((z10.1 11 x1.toNatClampNeg).toInt64))) (m_X10_give z8 12 ((z8.1 10 x1.toNatClampNeg).toInt64)))) (m_X10_give z7 11 ((z7.1 8 x1.toNatClampNeg).toInt64)) = mm := by rw [qz7]; exact hm
        have jz7 : rJ z7 := J_X10_give qz7.symm hj_ (vp_in_iff.mpr ⟨by decide, by decide⟩)
        obtain ⟨z8, qz8⟩ : ∃ t : eb_St, t = m_X10_give z7 11 ((z7.1 8 x1.toNatClampNeg).toInt64) := ⟨_, rfl⟩
        have hm : (if (z8.1 11 x1.toNatClampNeg) = 0 then (fun (z12 : eb_St) => (fun (z13 : eb_St) => z13) (m_X10_give z12 13 ((z12.1 11 x1.toNatClampNeg).toInt64))) (m_X10_give z8 12 0) else (fun (z10 : eb_St) => (fun (z11 : eb_St) => z11) (m_X10_give z10 13 ((z10.1 11 x1.toNatClampNeg).toInt64))) (m_X10_give z8 12 ((z8.1 10 x1.toNatClampNeg).toInt64))) = mm := by rw [qz8]; exact hm
        have jz8 : rJ z8 := J_X10_give qz8.symm jz7 (vp_in_iff.mpr ⟨by decide, by decide⟩)
        refine eb_emn (c := (z8.1 11 x1.toNatClampNeg) = 0) (fun h9 => ?_) (fun h9 => ?_)
        · have hm := (if_neg h9).symm.trans hm
          obtain ⟨z10, qz10⟩ : ∃ t : eb_St, t = m_X10_give z8 12 ((z8.1 10 x1.toNatClampNeg).toInt64) := ⟨_, rfl⟩
          have hm : (fun (z11 : eb_St) => z11) (m_X10_give z10 13 ((z10.1 11 x1.toNatClampNeg).toInt64)) = mm := by rw [qz10]; exact hm
          have jz10 : rJ z10 := J_X10_give qz10.symm jz8 (vp_in_iff.mpr ⟨by decide, by decide⟩)
          obtain ⟨z11, qz11⟩ : ∃ t : eb_St, t = m_X10_give z10 13 ((z10.1 11 x1.toNatClampNeg).toInt64) := ⟨_, rfl⟩
          have hm : z11 = mm := by rw [qz11]; exact hm
          have jz11 : rJ z11 := J_X10_give qz11.symm jz10 (vp_in_iff.mpr ⟨by decide, by decide⟩)
          subst hm
          exact jz11
        · have hm := (if_pos h9).symm.trans hm
          obtain ⟨z12, qz12⟩ : ∃ t : eb_St, t = m_X10_give z8 12 0 := ⟨_, rfl⟩
          have hm : (fun (z13 : eb_St) => z13) (m_X10_give z12 13 ((z12.1 11 x1.toNatClampNeg).toInt64)) = mm := by rw [qz12]; exact hm
          have jz12 : rJ z12 := J_X10_give qz12.symm jz8 (vp_in_iff.mpr ⟨by decide, by decide⟩)
          obtain ⟨z13, qz13⟩ : ∃ t : eb_St, t = m_X10_give z12 13 ((z12.1 11 x1.toNatClampNeg).toInt64) := ⟨_, rfl⟩
          have hm : z13 = mm := by rw [qz13]; exact hm
          have jz13 : rJ z13 := J_X10_give qz13.symm jz12 (vp_in_iff.mpr ⟨by decide, by decide⟩)
          subst hm
          exact jz13
    · have hm := (if_pos h4).symm.trans hm
      obtain ⟨z14, qz14⟩ : ∃ t : Int64, t = m_X10_key σ x1 := ⟨_, rfl⟩
      have hm : (fun (z15 : eb_St) => z15) (m_X10_give σ 10 z14) = mm := by rw [qz14]; exact hm
      obtain ⟨z15, qz15⟩ : ∃ t : eb_St, t = m_X10_give σ 10 z14 := ⟨_, rfl⟩
      have hm : z15 = mm := by rw [qz15]; exact hm
      have jz15 : rJ z15 := J_X10_give qz15.symm hj_ (vp_in_iff.mpr ⟨by decide, by decide⟩)
      subst hm
      exact jz15
  · have hm := (if_pos h3).symm.trans hm
    obtain ⟨z16, qz16⟩ : ∃ t : Int64, t = m_X10_x σ 10 := ⟨_, rfl⟩
    have hm : (fun (z17 : eb_St) => z17) (m_X10_ends σ 2 0 z16) = mm := by rw [qz16]; exact hm
    obtain ⟨z17, qz17⟩ : ∃ t : eb_St, t = m_X10_ends σ 2 0 z16 := ⟨_, rfl⟩
    have hm : z17 = mm := by rw [qz17]; exact hm
    have jz17 : rJ z17 := J_X10_ends qz17.symm hj_ h0_
    subst hm
    exact jz17
set_option maxHeartbeats 4000000 in
set_option maxRecDepth 100000 in
theorem c_X10_enclaveCalls (l : Launch) (D : va_G) (cy : Nat → ClassId) (ad : Nat → Nat) (σ : eb_St)  (hj_ : rJ σ) (h0_ : vp_in (σ.1 0 8) 6) : eb_M l yX10_enclaveCalls (Cond.code yX10_enclaveCalls cX10_enclaveCalls 4 none :: wsL_law) 2 49 D 18 cy rL ad σ [.ref (ad 0)] (none) (m_X10_enclaveCalls σ) := by
  refine eb_start (own := RX10) (by decide) rfl rfl (Nat.le_of_ble_eq_true rfl) ?_
  intro p e s m args below meth c A ls X hw hl
  have hl : lv_has ls 4 [(0, .ref (ad 0))] := hl
  have hx := X.1.1
  have hb := X.1.2.1
  have hown := X.1.2.2.2.1
  have hts := X.1.2.2.2.2
  generalize hm : m_X10_enclaveCalls σ = mm
  have hm : (fun (x1 : Int32) => (fun (z2 : Int64) => (if z2 = 1 then (fun (z16 : Int64) => (fun (z17 : eb_St) => z17) (m_X10_ends σ 2 0 z16)) (m_X10_x σ 10) else (if z2 = 2 then (fun (z14 : Int64) => (fun (z15 : eb_St) => z15) (m_X10_give σ 10 z14)) (m_X10_key σ x1) else (if z2 = 3 then (fun (z7 : eb_St) => (fun (z8 : eb_St) => (if (z8.1 11 x1.toNatClampNeg) = 0 then (fun (z12 : eb_St) => (fun (z13 : eb_St) => z13) (m_X10_give z12 13 ((z12.1 11 x1.toNatClampNeg).toInt64))) (m_X10_give z8 12 0) else (fun (z10 : eb_St) => (fun (z11 : eb_St) => z11) (m_X10_give z10 13 ((z10.1 11 x1.toNatClampNeg).toInt64))) (m_X10_give z8 12 ((z8.1 10 x1.toNatClampNeg).toInt64)))) (m_X10_give z7 11 ((z7.1 8 x1.toNatClampNeg).toInt64))) (m_X10_give σ 10 ((σ.1 7 x1.toNatClampNeg).toInt64)) else (fun (z6 : eb_St) => z6) (m_X10_give σ 10 (-1)))))) (m_X10_x σ 17)) (σ.1 0 8) = mm := hm
  refine lv_aload_n hx hb dX10_enclaveCalls_0 rfl (lv_at hl 0 rfl) ?_
  refine eb_get (T := TX10) X hw 0 8 (by decide) ⟨rfl, rfl, rfl⟩ (by decide) (fun _ h => List.mem_cons_of_mem _ (inlX10 _ h)) (List.mem_cons_of_mem _ wi_5_13) (v := .int (σ.1 0 8)) rfl dX10_enclaveCalls_1 ?_
  refine lv_topi (fun x1 ex1 => ?_)
  have hm : (fun (z2 : Int64) => (if z2 = 1 then (fun (z16 : Int64) => (fun (z17 : eb_St) => z17) (m_X10_ends σ 2 0 z16)) (m_X10_x σ 10) else (if z2 = 2 then (fun (z14 : Int64) => (fun (z15 : eb_St) => z15) (m_X10_give σ 10 z14)) (m_X10_key σ x1) else (if z2 = 3 then (fun (z7 : eb_St) => (fun (z8 : eb_St) => (if (z8.1 11 x1.toNatClampNeg) = 0 then (fun (z12 : eb_St) => (fun (z13 : eb_St) => z13) (m_X10_give z12 13 ((z12.1 11 x1.toNatClampNeg).toInt64))) (m_X10_give z8 12 0) else (fun (z10 : eb_St) => (fun (z11 : eb_St) => z11) (m_X10_give z10 13 ((z10.1 11 x1.toNatClampNeg).toInt64))) (m_X10_give z8 12 ((z8.1 10 x1.toNatClampNeg).toInt64)))) (m_X10_give z7 11 ((z7.1 8 x1.toNatClampNeg).toInt64))) (m_X10_give σ 10 ((σ.1 7 x1.toNatClampNeg).toInt64)) else (fun (z6 : eb_St) => z6) (m_X10_give σ 10 (-1)))))) (m_X10_x σ 17) = mm := by rw [ex1]; exact hm
  refine lv_istore_n (lv' := [(1, .int x1), (0, .ref (ad 0))]) hx hb dX10_enclaveCalls_4 rfl hl (by decide) rfl (fun ls hl => ?_)
  refine lv_aload_n hx hb dX10_enclaveCalls_5 rfl (lv_at hl 1 rfl) ?_
  refine lv_bipush (v := 17) hx hb dX10_enclaveCalls_6 (by decide) ?_
  obtain ⟨z2, qz2⟩ : ∃ t : Int64, t = m_X10_x σ 17 := ⟨_, rfl⟩
  have hm : (if z2 = 1 then (fun (z16 : Int64) => (fun (z17 : eb_St) => z17) (m_X10_ends σ 2 0 z16)) (m_X10_x σ 10) else (if z2 = 2 then (fun (z14 : Int64) => (fun (z15 : eb_St) => z15) (m_X10_give σ 10 z14)) (m_X10_key σ x1) else (if z2 = 3 then (fun (z7 : eb_St) => (fun (z8 : eb_St) => (if (z8.1 11 x1.toNatClampNeg) = 0 then (fun (z12 : eb_St) => (fun (z13 : eb_St) => z13) (m_X10_give z12 13 ((z12.1 11 x1.toNatClampNeg).toInt64))) (m_X10_give z8 12 0) else (fun (z10 : eb_St) => (fun (z11 : eb_St) => z11) (m_X10_give z10 13 ((z10.1 11 x1.toNatClampNeg).toInt64))) (m_X10_give z8 12 ((z8.1 10 x1.toNatClampNeg).toInt64)))) (m_X10_give z7 11 ((z7.1 8 x1.toNatClampNeg).toInt64))) (m_X10_give σ 10 ((σ.1 7 x1.toNatClampNeg).toInt64)) else (fun (z6 : eb_St) => z6) (m_X10_give σ 10 (-1))))) = mm := by rw [qz2]; exact hm
  have hc : eb_M l yX10_x (Cond.code yX10_x cX10_x 2 (some .long) :: wsL_law) 1 20 D 18 cy rL ad σ [.ref (ad 0), .int 17] (some (.long z2)) σ := by rw [qz2]; exact c_X10_x l D cy ad σ 17 hj_ (vp_in_iff.mpr ⟨by decide, by decide⟩)
  refine eb_callV (n := 1) (as := [.int 17]) (rest := []) X hw hl.1 0 hc (by decide) ⟨rfl, rfl, rfl⟩ (eb_goodV wi_33_4 wi_33_5 wi_33_6 wi_1_5 wi_33_7) rfl (by decide +kernel) ⟨by decide, by decide⟩ rfl rfl (Nat.le_of_ble_eq_true rfl) dX10_enclaveCalls_8 ⟨by decide, by decide⟩ (st' := [.long z2]) rfl (fun H locs hw => ?_)
  refine lv_lstore_n (lv' := [(2, .long z2), (1, .int x1), (0, .ref (ad 0))]) hx hb dX10_enclaveCalls_11 rfl hl (by decide) rfl (fun ls hl => ?_)
  refine lv_lload_n hx hb dX10_enclaveCalls_12 rfl (lv_at hl 0 rfl) ?_
  refine lv_lconst (v := 1) hx hb dX10_enclaveCalls_13 (by decide) ?_
  refine eb_lif_ne (tgt := 33) hx hb dX10_enclaveCalls_14 dX10_enclaveCalls_15 (by decide) (fun h3 => ?_) (fun h3 => ?_)
  · have hm := (if_neg h3).symm.trans hm
    refine lv_lload_n hx hb dX10_enclaveCalls_33 rfl (lv_at hl 0 rfl) ?_
    refine lv_ldc2 hx hb hown (hts _ (List.mem_cons_of_mem _ wi_31_12)) dX10_enclaveCalls_34 ?_
    refine eb_lif_ne (tgt := 55) hx hb dX10_enclaveCalls_37 dX10_enclaveCalls_38 (by decide) (fun h4 => ?_) (fun h4 => ?_)
    · have hm := (if_neg h4).symm.trans hm
      refine lv_lload_n hx hb dX10_enclaveCalls_55 rfl (lv_at hl 0 rfl) ?_
      refine lv_ldc2 hx hb hown (hts _ (List.mem_cons_of_mem _ wi_30_7)) dX10_enclaveCalls_56 ?_
      refine eb_lif_ne (tgt := 131) hx hb dX10_enclaveCalls_59 dX10_enclaveCalls_60 (by decide) (fun h5 => ?_) (fun h5 => ?_)
      · have hm := (if_neg h5).symm.trans hm
        refine lv_aload_n hx hb dX10_enclaveCalls_131 rfl (lv_at hl 2 rfl) ?_
        refine lv_bipush (v := 10) hx hb dX10_enclaveCalls_132 (by decide) ?_
        refine lv_ldc2 hx hb hown (hts _ (List.mem_cons_of_mem _ wi_34_17)) dX10_enclaveCalls_134 ?_
        obtain ⟨z6, qz6⟩ : ∃ t : eb_St, t = m_X10_give σ 10 (-1) := ⟨_, rfl⟩
        have hm : z6 = mm := by rw [qz6]; exact hm
        have jz6 : rJ z6 := J_X10_give qz6.symm hj_ (vp_in_iff.mpr ⟨by decide, by decide⟩)
        have hc : eb_M l yX10_give (Cond.code yX10_give cX10_give 4 none :: wsL_law) 1 20 D 18 cy rL ad σ [.ref (ad 0), .int 10, .long (-1)] (none) z6 := by rw [qz6]; exact c_X10_give l D cy ad σ 10 (-1) hj_ (vp_in_iff.mpr ⟨by decide, by decide⟩)
        refine eb_callV (n := 2) (as := [.int 10, .long (-1)]) (rest := []) X hw hl.1 0 hc (by decide) ⟨rfl, rfl, rfl⟩ (eb_goodV wi_32_6 wi_32_7 wi_32_8 wi_1_5 wi_32_9) rfl (by decide +kernel) ⟨by decide, by decide⟩ rfl rfl (Nat.le_of_ble_eq_true rfl) dX10_enclaveCalls_137 ⟨by decide, by decide⟩ (st' := []) rfl (fun H locs hw => ?_)
        subst hm
        exact eb_vret X hw rfl rfl dX10_enclaveCalls_140
      · have hm := (if_pos h5).symm.trans hm
        refine lv_aload_n hx hb dX10_enclaveCalls_63 rfl (lv_at hl 2 rfl) ?_
        refine lv_bipush (v := 10) hx hb dX10_enclaveCalls_64 (by decide) ?_
        refine lv_aload_n hx hb dX10_enclaveCalls_66 rfl (lv_at hl 2 rfl) ?_
        refine eb_get (T := TX10) X hw 0 23 (by decide) ⟨rfl, rfl, rfl⟩ (by decide) (fun _ h => List.mem_cons_of_mem _ (inlX10 _ h)) (List.mem_cons_of_mem _ wi_5_17) (v := .ref (ad 7)) rfl dX10_enclaveCalls_67 ?_
        refine lv_iload_n hx hb dX10_enclaveCalls_70 rfl (lv_at hl 1 rfl) ?_
        refine eb_iald (n := 6) X hw 7 (by decide) rfl rfl (by rw [ex1]; exact h0_) dX10_enclaveCalls_71 ?_
        refine lv_i2l (v := (σ.1 7 x1.toNatClampNeg).toInt64) hx hb dX10_enclaveCalls_72 rfl ?_
        obtain ⟨z7, qz7⟩ : ∃ t : eb_St, t = m_X10_give σ 10 ((σ.1 7 x1.toNatClampNeg).toInt64) := ⟨_, rfl⟩
        have hm : (fun (z8 : eb_St) => (if (z8.1 11 x1.toNatClampNeg) = 0 then (fun (z12 : eb_St) => (fun (z13 : eb_St) => z13) (m_X10_give z12 13 ((z12.1 11 x1.toNatClampNeg).toInt64))) (m_X10_give z8 12 0) else (fun (z10 : eb_St) => (fun (z11 : eb_St) => z11) (m_X10_give z10 13 ((z10.1 11 x1.toNatClampNeg).toInt64))) (m_X10_give z8 12 ((z8.1 10 x1.toNatClampNeg).toInt64)))) (m_X10_give z7 11 ((z7.1 8 x1.toNatClampNeg).toInt64)) = mm := by rw [qz7]; exact hm
        have jz7 : rJ z7 := J_X10_give qz7.symm hj_ (vp_in_iff.mpr ⟨by decide, by decide⟩)
        have hc : eb_M l yX10_give (Cond.code yX10_give cX10_give 4 none :: wsL_law) 1 20 D 18 cy rL ad σ [.ref (ad 0), .int 10, .long ((σ.1 7 x1.toNatClampNeg).toInt64)] (none) z7 := by rw [qz7]; exact c_X10_give l D cy ad σ 10 ((σ.1 7 x1.toNatClampNeg).toInt64) hj_ (vp_in_iff.mpr ⟨by decide, by decide⟩)
        refine eb_callV (n := 2) (as := [.int 10, .long ((σ.1 7 x1.toNatClampNeg).toInt64)]) (rest := []) X hw hl.1 0 hc (by decide) ⟨rfl, rfl, rfl⟩ (eb_goodV wi_32_6 wi_32_7 wi_32_8 wi_1_5 wi_32_9) rfl (by decide +kernel) ⟨by decide, by decide⟩ rfl rfl (Nat.le_of_ble_eq_true rfl) dX10_enclaveCalls_73 ⟨by decide, by decide⟩ (st' := []) rfl (fun H locs hw => ?_)
        refine lv_aload_n hx hb dX10_enclaveCalls_76 rfl (lv_at hl 2 rfl) ?_
        refine lv_bipush (v := 11) hx hb dX10_enclaveCalls_77 (by decide) ?_
        refine lv_aload_n hx hb dX10_enclaveCalls_79 rfl (lv_at hl 2 rfl) ?_
        refine eb_get (T := TX10) X hw 0 24 (by decide) ⟨rfl, rfl, rfl⟩ (by decide) (fun _ h => List.mem_cons_of_mem _ (inlX10 _ h)) (List.mem_cons_of_mem _ wi_5_18) (v := .ref (ad 8)) rfl dX10_enclaveCalls_80 ?_
        refine lv_iload_n hx hb dX10_enclaveCalls_83 rfl (lv_at hl 1 rfl) ?_
        refine eb_iald (n := 6) X hw 8 (by decide) rfl rfl (by rw [ex1]; exact h0_) dX10_enclaveCalls_84 ?_
        refine lv_i2l (v := (z7.1 8 x1.toNatClampNeg).toInt64) hx hb dX10_enclaveCalls_85 rfl ?_
        obtain ⟨z8, qz8⟩ : ∃ t : eb_St, t = m_X10_give z7 11 ((z7.1 8 x1.toNatClampNeg).toInt64) := ⟨_, rfl⟩
        have hm : (if (z8.1 11 x1.toNatClampNeg) = 0 then (fun (z12 : eb_St) => (fun (z13 : eb_St) => z13) (m_X10_give z12 13 ((z12.1 11 x1.toNatClampNeg).toInt64))) (m_X10_give z8 12 0) else (fun (z10 : eb_St) => (fun (z11 : eb_St) => z11) (m_X10_give z10 13 ((z10.1 11 x1.toNatClampNeg).toInt64))) (m_X10_give z8 12 ((z8.1 10 x1.toNatClampNeg).toInt64))) = mm := by rw [qz8]; exact hm
        have jz8 : rJ z8 := J_X10_give qz8.symm jz7 (vp_in_iff.mpr ⟨by decide, by decide⟩)
        have hc : eb_M l yX10_give (Cond.code yX10_give cX10_give 4 none :: wsL_law) 1 20 D 18 cy rL ad z7 [.ref (ad 0), .int 11, .long ((z7.1 8 x1.toNatClampNeg).toInt64)] (none) z8 := by rw [qz8]; exact c_X10_give l D cy ad z7 11 ((z7.1 8 x1.toNatClampNeg).toInt64) jz7 (vp_in_iff.mpr ⟨by decide, by decide⟩)
        refine eb_callV (n := 2) (as := [.int 11, .long ((z7.1 8 x1.toNatClampNeg).toInt64)]) (rest := []) X hw hl.1 0 hc (by decide) ⟨rfl, rfl, rfl⟩ (eb_goodV wi_32_6 wi_32_7 wi_32_8 wi_1_5 wi_32_9) rfl (by decide +kernel) ⟨by decide, by decide⟩ rfl rfl (Nat.le_of_ble_eq_true rfl) dX10_enclaveCalls_86 ⟨by decide, by decide⟩ (st' := []) rfl (fun H locs hw => ?_)
        refine lv_aload_n hx hb dX10_enclaveCalls_89 rfl (lv_at hl 2 rfl) ?_
        refine lv_bipush (v := 12) hx hb dX10_enclaveCalls_90 (by decide) ?_
        refine lv_aload_n hx hb dX10_enclaveCalls_92 rfl (lv_at hl 2 rfl) ?_
        refine eb_get (T := TX10) X hw 0 27 (by decide) ⟨rfl, rfl, rfl⟩ (by decide) (fun _ h => List.mem_cons_of_mem _ (inlX10 _ h)) (List.mem_cons_of_mem _ wi_5_21) (v := .ref (ad 11)) rfl dX10_enclaveCalls_93 ?_
        refine lv_iload_n hx hb dX10_enclaveCalls_96 rfl (lv_at hl 1 rfl) ?_
        refine eb_iald (n := 6) X hw 11 (by decide) rfl rfl (by rw [ex1]; exact h0_) dX10_enclaveCalls_97 ?_
        refine lv_if_ne (tgt := 105) hx hb dX10_enclaveCalls_98 (by decide) (fun h9 => ?_) (fun h9 => ?_)
        · have hm := (if_neg h9).symm.trans hm
          refine lv_aload_n hx hb dX10_enclaveCalls_105 rfl (lv_at hl 2 rfl) ?_
          refine eb_get (T := TX10) X hw 0 26 (by decide) ⟨rfl, rfl, rfl⟩ (by decide) (fun _ h => List.mem_cons_of_mem _ (inlX10 _ h)) (List.mem_cons_of_mem _ wi_5_20) (v := .ref (ad 10)) rfl dX10_enclaveCalls_106 ?_
          refine lv_iload_n hx hb dX10_enclaveCalls_109 rfl (lv_at hl 1 rfl) ?_
          refine eb_iald (n := 6) X hw 10 (by decide) rfl rfl (by rw [ex1]; exact h0_) dX10_enclaveCalls_110 ?_
          refine lv_i2l (v := (z8.1 10 x1.toNatClampNeg).toInt64) hx hb dX10_enclaveCalls_111 rfl ?_
          obtain ⟨z10, qz10⟩ : ∃ t : eb_St, t = m_X10_give z8 12 ((z8.1 10 x1.toNatClampNeg).toInt64) := ⟨_, rfl⟩
          have hm : (fun (z11 : eb_St) => z11) (m_X10_give z10 13 ((z10.1 11 x1.toNatClampNeg).toInt64)) = mm := by rw [qz10]; exact hm
          have jz10 : rJ z10 := J_X10_give qz10.symm jz8 (vp_in_iff.mpr ⟨by decide, by decide⟩)
          have hc : eb_M l yX10_give (Cond.code yX10_give cX10_give 4 none :: wsL_law) 1 20 D 18 cy rL ad z8 [.ref (ad 0), .int 12, .long ((z8.1 10 x1.toNatClampNeg).toInt64)] (none) z10 := by rw [qz10]; exact c_X10_give l D cy ad z8 12 ((z8.1 10 x1.toNatClampNeg).toInt64) jz8 (vp_in_iff.mpr ⟨by decide, by decide⟩)
          refine eb_callV (n := 2) (as := [.int 12, .long ((z8.1 10 x1.toNatClampNeg).toInt64)]) (rest := []) X hw hl.1 0 hc (by decide) ⟨rfl, rfl, rfl⟩ (eb_goodV wi_32_6 wi_32_7 wi_32_8 wi_1_5 wi_32_9) rfl (by decide +kernel) ⟨by decide, by decide⟩ rfl rfl (Nat.le_of_ble_eq_true rfl) dX10_enclaveCalls_112 ⟨by decide, by decide⟩ (st' := []) rfl (fun H locs hw => ?_)
          refine lv_aload_n hx hb dX10_enclaveCalls_115 rfl (lv_at hl 2 rfl) ?_
          refine lv_bipush (v := 13) hx hb dX10_enclaveCalls_116 (by decide) ?_
          refine lv_aload_n hx hb dX10_enclaveCalls_118 rfl (lv_at hl 2 rfl) ?_
          refine eb_get (T := TX10) X hw 0 27 (by decide) ⟨rfl, rfl, rfl⟩ (by decide) (fun _ h => List.mem_cons_of_mem _ (inlX10 _ h)) (List.mem_cons_of_mem _ wi_5_21) (v := .ref (ad 11)) rfl dX10_enclaveCalls_119 ?_
          refine lv_iload_n hx hb dX10_enclaveCalls_122 rfl (lv_at hl 1 rfl) ?_
          refine eb_iald (n := 6) X hw 11 (by decide) rfl rfl (by rw [ex1]; exact h0_) dX10_enclaveCalls_123 ?_
          refine lv_i2l (v := (z10.1 11 x1.toNatClampNeg).toInt64) hx hb dX10_enclaveCalls_124 rfl ?_
          obtain ⟨z11, qz11⟩ : ∃ t : eb_St, t = m_X10_give z10 13 ((z10.1 11 x1.toNatClampNeg).toInt64) := ⟨_, rfl⟩
          have hm : z11 = mm := by rw [qz11]; exact hm
          have jz11 : rJ z11 := J_X10_give qz11.symm jz10 (vp_in_iff.mpr ⟨by decide, by decide⟩)
          have hc : eb_M l yX10_give (Cond.code yX10_give cX10_give 4 none :: wsL_law) 1 20 D 18 cy rL ad z10 [.ref (ad 0), .int 13, .long ((z10.1 11 x1.toNatClampNeg).toInt64)] (none) z11 := by rw [qz11]; exact c_X10_give l D cy ad z10 13 ((z10.1 11 x1.toNatClampNeg).toInt64) jz10 (vp_in_iff.mpr ⟨by decide, by decide⟩)
          refine eb_callV (n := 2) (as := [.int 13, .long ((z10.1 11 x1.toNatClampNeg).toInt64)]) (rest := []) X hw hl.1 0 hc (by decide) ⟨rfl, rfl, rfl⟩ (eb_goodV wi_32_6 wi_32_7 wi_32_8 wi_1_5 wi_32_9) rfl (by decide +kernel) ⟨by decide, by decide⟩ rfl rfl (Nat.le_of_ble_eq_true rfl) dX10_enclaveCalls_125 ⟨by decide, by decide⟩ (st' := []) rfl (fun H locs hw => ?_)
          refine lv_goto (tgt := 140) hx hb dX10_enclaveCalls_128 (by decide) ?_
          subst hm
          exact eb_vret X hw rfl rfl dX10_enclaveCalls_140
        · have hm := (if_pos h9).symm.trans hm
          refine lv_lconst (v := 0) hx hb dX10_enclaveCalls_101 (by decide) ?_
          refine lv_goto (tgt := 112) hx hb dX10_enclaveCalls_102 (by decide) ?_
          obtain ⟨z12, qz12⟩ : ∃ t : eb_St, t = m_X10_give z8 12 0 := ⟨_, rfl⟩
          have hm : (fun (z13 : eb_St) => z13) (m_X10_give z12 13 ((z12.1 11 x1.toNatClampNeg).toInt64)) = mm := by rw [qz12]; exact hm
          have jz12 : rJ z12 := J_X10_give qz12.symm jz8 (vp_in_iff.mpr ⟨by decide, by decide⟩)
          have hc : eb_M l yX10_give (Cond.code yX10_give cX10_give 4 none :: wsL_law) 1 20 D 18 cy rL ad z8 [.ref (ad 0), .int 12, .long 0] (none) z12 := by rw [qz12]; exact c_X10_give l D cy ad z8 12 0 jz8 (vp_in_iff.mpr ⟨by decide, by decide⟩)
          refine eb_callV (n := 2) (as := [.int 12, .long 0]) (rest := []) X hw hl.1 0 hc (by decide) ⟨rfl, rfl, rfl⟩ (eb_goodV wi_32_6 wi_32_7 wi_32_8 wi_1_5 wi_32_9) rfl (by decide +kernel) ⟨by decide, by decide⟩ rfl rfl (Nat.le_of_ble_eq_true rfl) dX10_enclaveCalls_112 ⟨by decide, by decide⟩ (st' := []) rfl (fun H locs hw => ?_)
          refine lv_aload_n hx hb dX10_enclaveCalls_115 rfl (lv_at hl 2 rfl) ?_
          refine lv_bipush (v := 13) hx hb dX10_enclaveCalls_116 (by decide) ?_
          refine lv_aload_n hx hb dX10_enclaveCalls_118 rfl (lv_at hl 2 rfl) ?_
          refine eb_get (T := TX10) X hw 0 27 (by decide) ⟨rfl, rfl, rfl⟩ (by decide) (fun _ h => List.mem_cons_of_mem _ (inlX10 _ h)) (List.mem_cons_of_mem _ wi_5_21) (v := .ref (ad 11)) rfl dX10_enclaveCalls_119 ?_
          refine lv_iload_n hx hb dX10_enclaveCalls_122 rfl (lv_at hl 1 rfl) ?_
          refine eb_iald (n := 6) X hw 11 (by decide) rfl rfl (by rw [ex1]; exact h0_) dX10_enclaveCalls_123 ?_
          refine lv_i2l (v := (z12.1 11 x1.toNatClampNeg).toInt64) hx hb dX10_enclaveCalls_124 rfl ?_
          obtain ⟨z13, qz13⟩ : ∃ t : eb_St, t = m_X10_give z12 13 ((z12.1 11 x1.toNatClampNeg).toInt64) := ⟨_, rfl⟩
          have hm : z13 = mm := by rw [qz13]; exact hm
          have jz13 : rJ z13 := J_X10_give qz13.symm jz12 (vp_in_iff.mpr ⟨by decide, by decide⟩)
          have hc : eb_M l yX10_give (Cond.code yX10_give cX10_give 4 none :: wsL_law) 1 20 D 18 cy rL ad z12 [.ref (ad 0), .int 13, .long ((z12.1 11 x1.toNatClampNeg).toInt64)] (none) z13 := by rw [qz13]; exact c_X10_give l D cy ad z12 13 ((z12.1 11 x1.toNatClampNeg).toInt64) jz12 (vp_in_iff.mpr ⟨by decide, by decide⟩)
          refine eb_callV (n := 2) (as := [.int 13, .long ((z12.1 11 x1.toNatClampNeg).toInt64)]) (rest := []) X hw hl.1 0 hc (by decide) ⟨rfl, rfl, rfl⟩ (eb_goodV wi_32_6 wi_32_7 wi_32_8 wi_1_5 wi_32_9) rfl (by decide +kernel) ⟨by decide, by decide⟩ rfl rfl (Nat.le_of_ble_eq_true rfl) dX10_enclaveCalls_125 ⟨by decide, by decide⟩ (st' := []) rfl (fun H locs hw => ?_)
          refine lv_goto (tgt := 140) hx hb dX10_enclaveCalls_128 (by decide) ?_
          subst hm
          exact eb_vret X hw rfl rfl dX10_enclaveCalls_140
    · have hm := (if_pos h4).symm.trans hm
      refine lv_aload_n hx hb dX10_enclaveCalls_41 rfl (lv_at hl 2 rfl) ?_
      refine lv_bipush (v := 10) hx hb dX10_enclaveCalls_42 (by decide) ?_
      refine lv_aload_n hx hb dX10_enclaveCalls_44 rfl (lv_at hl 2 rfl) ?_
      refine lv_iload_n hx hb dX10_enclaveCalls_45 rfl (lv_at hl 1 rfl) ?_
      obtain ⟨z14, qz14⟩ : ∃ t : Int64, t = m_X10_key σ x1 := ⟨_, rfl⟩
      have hm : (fun (z15 : eb_St) => z15) (m_X10_give σ 10 z14) = mm := by rw [qz14]; exact hm
      have hc : eb_M l yX10_key (Cond.code yX10_key cX10_key 4 (some .long) :: wsL_law) 0 0 D 18 cy rL ad σ [.ref (ad 0), .int x1] (some (.long z14)) σ := by rw [qz14]; exact c_X10_key l D cy ad σ x1 (by rw [ex1]; exact h0_)
      refine eb_callV (n := 1) (as := [.int x1]) (rest := [.int 10, .ref (ad 0)]) X hw hl.1 0 hc (by decide) ⟨rfl, rfl, rfl⟩ (eb_goodV wi_36_16 wi_36_17 wi_36_18 wi_1_5 wi_36_19) rfl (by decide +kernel) ⟨by decide, by decide⟩ rfl rfl (Nat.le_of_ble_eq_true rfl) dX10_enclaveCalls_46 ⟨by decide, by decide⟩ (st' := [.long z14, .int 10, .ref (ad 0)]) rfl (fun H locs hw => ?_)
      obtain ⟨z15, qz15⟩ : ∃ t : eb_St, t = m_X10_give σ 10 z14 := ⟨_, rfl⟩
      have hm : z15 = mm := by rw [qz15]; exact hm
      have jz15 : rJ z15 := J_X10_give qz15.symm hj_ (vp_in_iff.mpr ⟨by decide, by decide⟩)
      have hc : eb_M l yX10_give (Cond.code yX10_give cX10_give 4 none :: wsL_law) 1 20 D 18 cy rL ad σ [.ref (ad 0), .int 10, .long z14] (none) z15 := by rw [qz15]; exact c_X10_give l D cy ad σ 10 z14 hj_ (vp_in_iff.mpr ⟨by decide, by decide⟩)
      refine eb_callV (n := 2) (as := [.int 10, .long z14]) (rest := []) X hw hl.1 0 hc (by decide) ⟨rfl, rfl, rfl⟩ (eb_goodV wi_32_6 wi_32_7 wi_32_8 wi_1_5 wi_32_9) rfl (by decide +kernel) ⟨by decide, by decide⟩ rfl rfl (Nat.le_of_ble_eq_true rfl) dX10_enclaveCalls_49 ⟨by decide, by decide⟩ (st' := []) rfl (fun H locs hw => ?_)
      refine lv_goto (tgt := 140) hx hb dX10_enclaveCalls_52 (by decide) ?_
      subst hm
      exact eb_vret X hw rfl rfl dX10_enclaveCalls_140
  · have hm := (if_pos h3).symm.trans hm
    refine lv_aload_n hx hb dX10_enclaveCalls_18 rfl (lv_at hl 2 rfl) ?_
    refine lv_iconst (v := 2) hx hb dX10_enclaveCalls_19 (by decide) ?_
    refine lv_lconst (v := 0) hx hb dX10_enclaveCalls_20 (by decide) ?_
    refine lv_aload_n hx hb dX10_enclaveCalls_21 rfl (lv_at hl 2 rfl) ?_
    refine lv_bipush (v := 10) hx hb dX10_enclaveCalls_22 (by decide) ?_
    obtain ⟨z16, qz16⟩ : ∃ t : Int64, t = m_X10_x σ 10 := ⟨_, rfl⟩
    have hm : (fun (z17 : eb_St) => z17) (m_X10_ends σ 2 0 z16) = mm := by rw [qz16]; exact hm
    have hc : eb_M l yX10_x (Cond.code yX10_x cX10_x 2 (some .long) :: wsL_law) 1 20 D 18 cy rL ad σ [.ref (ad 0), .int 10] (some (.long z16)) σ := by rw [qz16]; exact c_X10_x l D cy ad σ 10 hj_ (vp_in_iff.mpr ⟨by decide, by decide⟩)
    refine eb_callV (n := 1) (as := [.int 10]) (rest := [.long 0, .int 2, .ref (ad 0)]) X hw hl.1 0 hc (by decide) ⟨rfl, rfl, rfl⟩ (eb_goodV wi_33_4 wi_33_5 wi_33_6 wi_1_5 wi_33_7) rfl (by decide +kernel) ⟨by decide, by decide⟩ rfl rfl (Nat.le_of_ble_eq_true rfl) dX10_enclaveCalls_24 ⟨by decide, by decide⟩ (st' := [.long z16, .long 0, .int 2, .ref (ad 0)]) rfl (fun H locs hw => ?_)
    obtain ⟨z17, qz17⟩ : ∃ t : eb_St, t = m_X10_ends σ 2 0 z16 := ⟨_, rfl⟩
    have hm : z17 = mm := by rw [qz17]; exact hm
    have jz17 : rJ z17 := J_X10_ends qz17.symm hj_ h0_
    have hc : eb_M l yX10_ends (Cond.code yX10_ends cX10_ends 6 none :: wsL_law) 1 24 D 18 cy rL ad σ [.ref (ad 0), .int 2, .long 0, .long z16] (none) z17 := by rw [qz17]; exact c_X10_ends l D cy ad σ 2 0 z16 hj_ h0_
    refine eb_callV (n := 3) (as := [.int 2, .long 0, .long z16]) (rest := []) X hw hl.1 0 hc (by decide) ⟨rfl, rfl, rfl⟩ (eb_goodV wi_29_19 wi_29_20 wi_29_21 wi_1_5 wi_29_22) rfl (by decide +kernel) ⟨by decide, by decide⟩ rfl rfl (Nat.le_of_ble_eq_true rfl) dX10_enclaveCalls_27 ⟨by decide, by decide⟩ (st' := []) rfl (fun H locs hw => ?_)
    refine lv_goto (tgt := 140) hx hb dX10_enclaveCalls_30 (by decide) ?_
    subst hm
    exact eb_vret X hw rfl rfl dX10_enclaveCalls_140

theorem J_X10_enter {σ : eb_St} {a0 : Int32} {mm : eb_St} (hm : m_X10_enter σ a0 = mm) (hj_ : rJ σ) (h0_ : vp_in a0 6) (h1_ : ¬ σ.1 6 a0.toNatClampNeg = 0) : rJ mm := by
  have hm : (if (σ.1 6 a0.toNatClampNeg) = 3 then (fun (z4 : eb_St) => z4) (m_X10_give σ 10 (-5)) else (fun (z2 : Int64) => (fun (x3 : Int32) => eb_pI (eb_pI (eb_pI (eb_pI (eb_pI (eb_pI (eb_pJ σ 0 31 z2) 0 32 0) 6 a0.toNatClampNeg 4) 0 8 a0) 0 35 0) 0 11 ((σ.1 0 11) + 1)) 12 a0.toNatClampNeg x3) (((eb_pI (eb_pI (eb_pI (eb_pI (eb_pI (eb_pJ σ 0 31 z2) 0 32 0) 6 a0.toNatClampNeg 4) 0 8 a0) 0 35 0) 0 11 ((σ.1 0 11) + 1)).1 12 a0.toNatClampNeg) + 1)) (m_X10_x σ 11)) = mm := hm
  refine eb_emn (c := (σ.1 6 a0.toNatClampNeg) = 3) (fun h1 => ?_) (fun h1 => ?_)
  · have hm := (if_neg h1).symm.trans hm
    obtain ⟨z2, qz2⟩ : ∃ t : Int64, t = m_X10_x σ 11 := ⟨_, rfl⟩
    have hm : (fun (x3 : Int32) => eb_pI (eb_pI (eb_pI (eb_pI (eb_pI (eb_pI (eb_pJ σ 0 31 z2) 0 32 0) 6 a0.toNatClampNeg 4) 0 8 a0) 0 35 0) 0 11 ((σ.1 0 11) + 1)) 12 a0.toNatClampNeg x3) (((eb_pI (eb_pI (eb_pI (eb_pI (eb_pI (eb_pJ σ 0 31 z2) 0 32 0) 6 a0.toNatClampNeg 4) 0 8 a0) 0 35 0) 0 11 ((σ.1 0 11) + 1)).1 12 a0.toNatClampNeg) + 1) = mm := by rw [qz2]; exact hm
    obtain ⟨x3, ex3⟩ : ∃ z : Int32, z = ((eb_pI (eb_pI (eb_pI (eb_pI (eb_pI (eb_pJ σ 0 31 z2) 0 32 0) 6 a0.toNatClampNeg 4) 0 8 a0) 0 35 0) 0 11 ((σ.1 0 11) + 1)).1 12 a0.toNatClampNeg) + 1 := ⟨_, rfl⟩
    have hm : eb_pI (eb_pI (eb_pI (eb_pI (eb_pI (eb_pI (eb_pJ σ 0 31 z2) 0 32 0) 6 a0.toNatClampNeg 4) 0 8 a0) 0 35 0) 0 11 ((σ.1 0 11) + 1)) 12 a0.toNatClampNeg x3 = mm := by rw [ex3]; exact hm
    subst hm
    exact (show rJ (eb_pI (eb_pI (eb_pI (eb_pJ σ 0 31 z2) 0 32 0) 6 a0.toNatClampNeg 4) 0 8 a0) from (rJ_run (show rJ (eb_pI (eb_pI (eb_pJ σ 0 31 z2) 0 32 0) 6 a0.toNatClampNeg 4) from rJ_w hj_ (Or.inr (hj_.2.2.2.2.2.2.2.1 _ (eb_lt h0_) h1_))) ⟨h0_, hj_.2.2.2.2.2.2.2.1 _ (eb_lt h0_) h1_⟩))
  · have hm := (if_pos h1).symm.trans hm
    obtain ⟨z4, qz4⟩ : ∃ t : eb_St, t = m_X10_give σ 10 (-5) := ⟨_, rfl⟩
    have hm : z4 = mm := by rw [qz4]; exact hm
    have jz4 : rJ z4 := J_X10_give qz4.symm hj_ (vp_in_iff.mpr ⟨by decide, by decide⟩)
    subst hm
    exact jz4
set_option maxHeartbeats 4000000 in
set_option maxRecDepth 100000 in
theorem c_X10_enter (l : Launch) (D : va_G) (cy : Nat → ClassId) (ad : Nat → Nat) (σ : eb_St) (a0 : Int32) (hj_ : rJ σ) (h0_ : vp_in a0 6) (h1_ : ¬ σ.1 6 a0.toNatClampNeg = 0) : eb_M l yX10_enter (Cond.code yX10_enter cX10_enter 2 none :: wsL_law) 2 43 D 18 cy rL ad σ [.ref (ad 0), .int a0] (none) (m_X10_enter σ a0) := by
  refine eb_start (own := RX10) (by decide) rfl rfl (Nat.le_of_ble_eq_true rfl) ?_
  intro p e s m args below meth c A ls X hw hl
  have hl : lv_has ls 2 [(0, .ref (ad 0)), (1, .int a0)] := hl
  have hx := X.1.1
  have hb := X.1.2.1
  have hown := X.1.2.2.2.1
  have hts := X.1.2.2.2.2
  generalize hm : m_X10_enter σ a0 = mm
  have hm : (if (σ.1 6 a0.toNatClampNeg) = 3 then (fun (z4 : eb_St) => z4) (m_X10_give σ 10 (-5)) else (fun (z2 : Int64) => (fun (x3 : Int32) => eb_pI (eb_pI (eb_pI (eb_pI (eb_pI (eb_pI (eb_pJ σ 0 31 z2) 0 32 0) 6 a0.toNatClampNeg 4) 0 8 a0) 0 35 0) 0 11 ((σ.1 0 11) + 1)) 12 a0.toNatClampNeg x3) (((eb_pI (eb_pI (eb_pI (eb_pI (eb_pI (eb_pJ σ 0 31 z2) 0 32 0) 6 a0.toNatClampNeg 4) 0 8 a0) 0 35 0) 0 11 ((σ.1 0 11) + 1)).1 12 a0.toNatClampNeg) + 1)) (m_X10_x σ 11)) = mm := hm
  refine lv_aload_n hx hb dX10_enter_0 rfl (lv_at hl 0 rfl) ?_
  refine eb_get (T := TX10) X hw 0 22 (by decide) ⟨rfl, rfl, rfl⟩ (by decide) (fun _ h => List.mem_cons_of_mem _ (inlX10 _ h)) (List.mem_cons_of_mem _ wi_5_16) (v := .ref (ad 6)) rfl dX10_enter_1 ?_
  refine lv_iload_n hx hb dX10_enter_4 rfl (lv_at hl 1 rfl) ?_
  refine eb_iald (n := 6) X hw 6 (by decide) rfl rfl h0_ dX10_enter_5 ?_
  refine lv_iconst (v := 3) hx hb dX10_enter_6 (by decide) ?_
  refine lv_icmp_ne (tgt := 20) hx hb dX10_enter_7 (by decide) (fun h1 => ?_) (fun h1 => ?_)
  · have hm := (if_neg h1).symm.trans hm
    refine lv_aload_n hx hb dX10_enter_20 rfl (lv_at hl 0 rfl) ?_
    refine lv_aload_n hx hb dX10_enter_21 rfl (lv_at hl 0 rfl) ?_
    refine lv_bipush (v := 11) hx hb dX10_enter_22 (by decide) ?_
    obtain ⟨z2, qz2⟩ : ∃ t : Int64, t = m_X10_x σ 11 := ⟨_, rfl⟩
    have hm : (fun (x3 : Int32) => eb_pI (eb_pI (eb_pI (eb_pI (eb_pI (eb_pI (eb_pJ σ 0 31 z2) 0 32 0) 6 a0.toNatClampNeg 4) 0 8 a0) 0 35 0) 0 11 ((σ.1 0 11) + 1)) 12 a0.toNatClampNeg x3) (((eb_pI (eb_pI (eb_pI (eb_pI (eb_pI (eb_pJ σ 0 31 z2) 0 32 0) 6 a0.toNatClampNeg 4) 0 8 a0) 0 35 0) 0 11 ((σ.1 0 11) + 1)).1 12 a0.toNatClampNeg) + 1) = mm := by rw [qz2]; exact hm
    have hc : eb_M l yX10_x (Cond.code yX10_x cX10_x 2 (some .long) :: wsL_law) 1 20 D 18 cy rL ad σ [.ref (ad 0), .int 11] (some (.long z2)) σ := by rw [qz2]; exact c_X10_x l D cy ad σ 11 hj_ (vp_in_iff.mpr ⟨by decide, by decide⟩)
    refine eb_callV (n := 1) (as := [.int 11]) (rest := [.ref (ad 0)]) X hw hl.1 0 hc (by decide) ⟨rfl, rfl, rfl⟩ (eb_goodV wi_33_4 wi_33_5 wi_33_6 wi_1_5 wi_33_7) rfl (by decide +kernel) ⟨by decide, by decide⟩ rfl rfl (Nat.le_of_ble_eq_true rfl) dX10_enter_24 ⟨by decide, by decide⟩ (st' := [.long z2, .ref (ad 0)]) rfl (fun H locs hw => ?_)
    refine eb_putJ (T := TX10) X hw 0 31 (by decide) ⟨rfl, rfl, rfl⟩ (by decide) rfl (fun _ h => List.mem_cons_of_mem _ (inlX10 _ h)) (List.mem_cons_of_mem _ wi_29_18) tyX10 tyX10_ok nmX10 rfl rfl rfl dX10_enter_27 (fun H locs hw => ?_)
    refine lv_aload_n hx hb dX10_enter_30 rfl (lv_at hl 0 rfl) ?_
    refine lv_iconst (v := 0) hx hb dX10_enter_31 (by decide) ?_
    refine eb_putI (T := TX10) X hw 0 32 (by decide) ⟨rfl, rfl, rfl⟩ (by decide) rfl (fun _ h => List.mem_cons_of_mem _ (inlX10 _ h)) (List.mem_cons_of_mem _ wi_29_16) tyX10 tyX10_ok nmX10 rfl rfl rfl dX10_enter_32 (fun H locs hw => ?_)
    refine lv_aload_n hx hb dX10_enter_35 rfl (lv_at hl 0 rfl) ?_
    refine eb_get (T := TX10) X hw 0 22 (by decide) ⟨rfl, rfl, rfl⟩ (by decide) (fun _ h => List.mem_cons_of_mem _ (inlX10 _ h)) (List.mem_cons_of_mem _ wi_5_16) (v := .ref (ad 6)) rfl dX10_enter_36 ?_
    refine lv_iload_n hx hb dX10_enter_39 rfl (lv_at hl 1 rfl) ?_
    refine lv_iconst (v := 4) hx hb dX10_enter_40 (by decide) ?_
    refine eb_iast (n := 6) X hw 6 (by decide) rfl rfl h0_ dX10_enter_41 (fun H locs hw => ?_)
    refine lv_aload_n hx hb dX10_enter_42 rfl (lv_at hl 0 rfl) ?_
    refine lv_iload_n hx hb dX10_enter_43 rfl (lv_at hl 1 rfl) ?_
    refine eb_putI (T := TX10) X hw 0 8 (by decide) ⟨rfl, rfl, rfl⟩ (by decide) rfl (fun _ h => List.mem_cons_of_mem _ (inlX10 _ h)) (List.mem_cons_of_mem _ wi_5_13) tyX10 tyX10_ok nmX10 rfl rfl rfl dX10_enter_44 (fun H locs hw => ?_)
    refine lv_aload_n hx hb dX10_enter_47 rfl (lv_at hl 0 rfl) ?_
    refine lv_iconst (v := 0) hx hb dX10_enter_48 (by decide) ?_
    refine eb_putI (T := TX10) X hw 0 35 (by decide) ⟨rfl, rfl, rfl⟩ (by decide) rfl (fun _ h => List.mem_cons_of_mem _ (inlX10 _ h)) (List.mem_cons_of_mem _ wi_9_21) tyX10 tyX10_ok nmX10 rfl rfl rfl dX10_enter_49 (fun H locs hw => ?_)
    refine lv_aload_n hx hb dX10_enter_52 rfl (lv_at hl 0 rfl) ?_
    refine lv_dup hx hb dX10_enter_53 rfl ?_
    refine eb_get (T := TX10) X hw 0 11 (by decide) ⟨rfl, rfl, rfl⟩ (by decide) (fun _ h => List.mem_cons_of_mem _ (inlX10 _ h)) (List.mem_cons_of_mem _ wi_9_12) (v := .int (σ.1 0 11)) rfl dX10_enter_54 ?_
    refine lv_iconst (v := 1) hx hb dX10_enter_57 (by decide) ?_
    refine lv_iadd hx hb dX10_enter_58 ?_
    refine eb_putI (T := TX10) X hw 0 11 (by decide) ⟨rfl, rfl, rfl⟩ (by decide) rfl (fun _ h => List.mem_cons_of_mem _ (inlX10 _ h)) (List.mem_cons_of_mem _ wi_9_12) tyX10 tyX10_ok nmX10 rfl rfl rfl dX10_enter_59 (fun H locs hw => ?_)
    refine lv_aload_n hx hb dX10_enter_62 rfl (lv_at hl 0 rfl) ?_
    refine eb_get (T := TX10) X hw 0 28 (by decide) ⟨rfl, rfl, rfl⟩ (by decide) (fun _ h => List.mem_cons_of_mem _ (inlX10 _ h)) (List.mem_cons_of_mem _ wi_5_22) (v := .ref (ad 12)) rfl dX10_enter_63 ?_
    refine lv_iload_n hx hb dX10_enter_66 rfl (lv_at hl 1 rfl) ?_
    refine lv_dup2_11 hx hb dX10_enter_67 rfl rfl ?_
    refine eb_iald (n := 6) X hw 12 (by decide) rfl rfl h0_ dX10_enter_68 ?_
    refine lv_iconst (v := 1) hx hb dX10_enter_69 (by decide) ?_
    refine lv_iadd hx hb dX10_enter_70 ?_
    refine lv_topi (fun x3 ex3 => ?_)
    have hm : eb_pI (eb_pI (eb_pI (eb_pI (eb_pI (eb_pI (eb_pJ σ 0 31 z2) 0 32 0) 6 a0.toNatClampNeg 4) 0 8 a0) 0 35 0) 0 11 ((σ.1 0 11) + 1)) 12 a0.toNatClampNeg x3 = mm := by rw [ex3]; exact hm
    refine eb_iast (n := 6) X hw 12 (by decide) rfl rfl h0_ dX10_enter_71 (fun H locs hw => ?_)
    subst hm
    exact eb_vret X hw rfl rfl dX10_enter_72
  · have hm := (if_pos h1).symm.trans hm
    refine lv_aload_n hx hb dX10_enter_10 rfl (lv_at hl 0 rfl) ?_
    refine lv_bipush (v := 10) hx hb dX10_enter_11 (by decide) ?_
    refine lv_ldc2 hx hb hown (hts _ (List.mem_cons_of_mem _ wi_38_15)) dX10_enter_13 ?_
    obtain ⟨z4, qz4⟩ : ∃ t : eb_St, t = m_X10_give σ 10 (-5) := ⟨_, rfl⟩
    have hm : z4 = mm := by rw [qz4]; exact hm
    have jz4 : rJ z4 := J_X10_give qz4.symm hj_ (vp_in_iff.mpr ⟨by decide, by decide⟩)
    have hc : eb_M l yX10_give (Cond.code yX10_give cX10_give 4 none :: wsL_law) 1 20 D 18 cy rL ad σ [.ref (ad 0), .int 10, .long (-5)] (none) z4 := by rw [qz4]; exact c_X10_give l D cy ad σ 10 (-5) hj_ (vp_in_iff.mpr ⟨by decide, by decide⟩)
    refine eb_callV (n := 2) (as := [.int 10, .long (-5)]) (rest := []) X hw hl.1 0 hc (by decide) ⟨rfl, rfl, rfl⟩ (eb_goodV wi_32_6 wi_32_7 wi_32_8 wi_1_5 wi_32_9) rfl (by decide +kernel) ⟨by decide, by decide⟩ rfl rfl (Nat.le_of_ble_eq_true rfl) dX10_enter_16 ⟨by decide, by decide⟩ (st' := []) rfl (fun H locs hw => ?_)
    subst hm
    exact eb_vret X hw rfl rfl dX10_enter_19

set_option maxHeartbeats 4000000 in
set_option maxRecDepth 100000 in
theorem c_X10_eye (l : Launch) (D : va_G) (cy : Nat → ClassId) (ad : Nat → Nat) (σ : eb_St) (a0 : Int32) (a1 : Int32) (hj_ : rJ σ) : eb_M l yX10_eye (Cond.code yX10_eye cX10_eye 4 (some .long) :: wsL_law) 1 25 D 18 cy rL ad σ [.ref (ad 0), .int a0, .int a1] (some (.long (m_X10_eye σ a0 a1))) σ := by
  refine eb_start (own := RX10) (by decide) rfl rfl (Nat.le_of_ble_eq_true rfl) ?_
  intro p e s m args below meth c A ls X hw hl
  have hl : lv_has ls 4 [(0, .ref (ad 0)), (1, .int a0), (2, .int a1)] := hl
  have hx := X.1.1
  have hb := X.1.2.1
  have hown := X.1.2.2.2.1
  have hts := X.1.2.2.2.2
  generalize hm : m_X10_eye σ a0 a1 = mm
  have hm : (if a0 < 0 then 0 else (if (5 : Int32) < a0 then 0 else (fun (z3 : Bool) => (if (eb_b z3) = 0 then 0 else (if 0 ≤ a1 then (if (32 : Int32) ≤ a1 then (if (35 : Int32) ≤ a1 then (fun (x8 : Int32) => (if ((σ.1 8 a0.toNatClampNeg) / 8) ≤ x8 then 0 else (fun (z10 : Int64) => z10) (m_X10_take σ ((σ.1 7 a0.toNatClampNeg) + (8 * x8)) 8))) (a1 - 35) else (if a1 = 32 then σ.2 3 a0.toNatClampNeg else (if a1 = 33 then σ.2 14 a0.toNatClampNeg else (fun (z13 : Int64) => z13) (m_X10_key σ a0)))) else σ.2 2 ((32 * a0) + a1).toNatClampNeg) else 0))) (m_X10_isLive σ a0))) = mm := hm
  refine lv_iload_n hx hb dX10_eye_0 rfl (lv_at hl 1 rfl) ?_
  refine lv_if_lt (tgt := 21) hx hb dX10_eye_1 (by decide) (fun h1 => ?_) (fun h1 => ?_)
  · have hm := (if_pos h1).symm.trans hm
    refine lv_lconst (v := 0) hx hb dX10_eye_21 (by decide) ?_
    subst hm
    exact eb_lret X hw rfl rfl rfl dX10_eye_22
  · have hm := (if_neg h1).symm.trans hm
    refine lv_iload_n hx hb dX10_eye_4 rfl (lv_at hl 1 rfl) ?_
    refine lv_iconst (v := 5) hx hb dX10_eye_5 (by decide) ?_
    refine lv_icmp_gt (tgt := 21) hx hb dX10_eye_6 (by decide) (fun h2 => ?_) (fun h2 => ?_)
    · have hm := (if_pos h2).symm.trans hm
      refine lv_lconst (v := 0) hx hb dX10_eye_21 (by decide) ?_
      subst hm
      exact eb_lret X hw rfl rfl rfl dX10_eye_22
    · have hm := (if_neg h2).symm.trans hm
      refine lv_aload_n hx hb dX10_eye_9 rfl (lv_at hl 0 rfl) ?_
      refine lv_iload_n hx hb dX10_eye_10 rfl (lv_at hl 1 rfl) ?_
      obtain ⟨z3, qz3⟩ : ∃ t : Bool, t = m_X10_isLive σ a0 := ⟨_, rfl⟩
      have hm : (if (eb_b z3) = 0 then 0 else (if 0 ≤ a1 then (if (32 : Int32) ≤ a1 then (if (35 : Int32) ≤ a1 then (fun (x8 : Int32) => (if ((σ.1 8 a0.toNatClampNeg) / 8) ≤ x8 then 0 else (fun (z10 : Int64) => z10) (m_X10_take σ ((σ.1 7 a0.toNatClampNeg) + (8 * x8)) 8))) (a1 - 35) else (if a1 = 32 then σ.2 3 a0.toNatClampNeg else (if a1 = 33 then σ.2 14 a0.toNatClampNeg else (fun (z13 : Int64) => z13) (m_X10_key σ a0)))) else σ.2 2 ((32 * a0) + a1).toNatClampNeg) else 0)) = mm := by rw [qz3]; exact hm
      have hc : eb_M l yX10_isLive (Cond.code yX10_isLive cX10_isLive 2 (some .boolean) :: wsL_law) 0 0 D 18 cy rL ad σ [.ref (ad 0), .int a0] (some (.int (eb_b z3))) σ := by rw [qz3]; exact c_X10_isLive l D cy ad σ a0 (eb_rngl (eb_nlt h1) (eb_nlt h2) (by decide) (by decide))
      refine eb_callV (n := 1) (as := [.int a0]) (rest := []) X hw hl.1 0 hc (by decide) ⟨rfl, rfl, rfl⟩ (eb_goodV wi_9_22 wi_9_23 wi_10_0 wi_1_5 wi_10_1) rfl (by decide +kernel) ⟨by decide, by decide⟩ rfl rfl (Nat.le_of_ble_eq_true rfl) dX10_eye_11 ⟨by decide, by decide⟩ (st' := [.int (eb_b z3)]) rfl (fun H locs hw => ?_)
      refine lv_if_eq (tgt := 21) hx hb dX10_eye_14 (by decide) (fun h4 => ?_) (fun h4 => ?_)
      · have hm := (if_pos h4).symm.trans hm
        refine lv_lconst (v := 0) hx hb dX10_eye_21 (by decide) ?_
        subst hm
        exact eb_lret X hw rfl rfl rfl dX10_eye_22
      · have hm := (if_neg h4).symm.trans hm
        refine lv_iload_n hx hb dX10_eye_17 rfl (lv_at hl 2 rfl) ?_
        refine lv_if_ge (tgt := 23) hx hb dX10_eye_18 (by decide) (fun h5 => ?_) (fun h5 => ?_)
        · have hm := (if_pos h5).symm.trans hm
          refine lv_iload_n hx hb dX10_eye_23 rfl (lv_at hl 2 rfl) ?_
          refine lv_bipush (v := 32) hx hb dX10_eye_24 (by decide) ?_
          refine lv_icmp_ge (tgt := 41) hx hb dX10_eye_26 (by decide) (fun h6 => ?_) (fun h6 => ?_)
          · have hm := (if_pos h6).symm.trans hm
            refine lv_iload_n hx hb dX10_eye_41 rfl (lv_at hl 2 rfl) ?_
            refine lv_bipush (v := 35) hx hb dX10_eye_42 (by decide) ?_
            refine lv_icmp_ge (tgt := 83) hx hb dX10_eye_44 (by decide) (fun h7 => ?_) (fun h7 => ?_)
            · have hm := (if_pos h7).symm.trans hm
              refine lv_iload_n hx hb dX10_eye_83 rfl (lv_at hl 2 rfl) ?_
              refine lv_bipush (v := 35) hx hb dX10_eye_84 (by decide) ?_
              refine lv_isub hx hb dX10_eye_86 ?_
              refine lv_topi (fun x8 ex8 => ?_)
              have hm : (if ((σ.1 8 a0.toNatClampNeg) / 8) ≤ x8 then 0 else (fun (z10 : Int64) => z10) (m_X10_take σ ((σ.1 7 a0.toNatClampNeg) + (8 * x8)) 8)) = mm := by rw [ex8]; exact hm
              refine lv_istore_n (lv' := [(3, .int x8), (0, .ref (ad 0)), (1, .int a0), (2, .int a1)]) hx hb dX10_eye_87 rfl hl (by decide) rfl (fun ls hl => ?_)
              refine lv_iload_n hx hb dX10_eye_88 rfl (lv_at hl 0 rfl) ?_
              refine lv_aload_n hx hb dX10_eye_89 rfl (lv_at hl 1 rfl) ?_
              refine eb_get (T := TX10) X hw 0 24 (by decide) ⟨rfl, rfl, rfl⟩ (by decide) (fun _ h => List.mem_cons_of_mem _ (inlX10 _ h)) (List.mem_cons_of_mem _ wi_5_18) (v := .ref (ad 8)) rfl dX10_eye_90 ?_
              refine lv_iload_n hx hb dX10_eye_93 rfl (lv_at hl 2 rfl) ?_
              refine eb_iald (n := 6) X hw 8 (by decide) rfl rfl (eb_rngl (eb_nlt h1) (eb_nlt h2) (by decide) (by decide)) dX10_eye_94 ?_
              refine lv_bipush (v := 8) hx hb dX10_eye_95 (by decide) ?_
              refine lv_idiv hx hb dX10_eye_97 (by decide) ?_
              refine lv_icmp_ge (tgt := 121) hx hb dX10_eye_98 (by decide) (fun h9 => ?_) (fun h9 => ?_)
              · have hm := (if_pos h9).symm.trans hm
                refine lv_lconst (v := 0) hx hb dX10_eye_121 (by decide) ?_
                subst hm
                exact eb_lret X hw rfl rfl rfl dX10_eye_122
              · have hm := (if_neg h9).symm.trans hm
                refine lv_aload_n hx hb dX10_eye_101 rfl (lv_at hl 1 rfl) ?_
                refine lv_aload_n hx hb dX10_eye_102 rfl (lv_at hl 1 rfl) ?_
                refine eb_get (T := TX10) X hw 0 23 (by decide) ⟨rfl, rfl, rfl⟩ (by decide) (fun _ h => List.mem_cons_of_mem _ (inlX10 _ h)) (List.mem_cons_of_mem _ wi_5_17) (v := .ref (ad 7)) rfl dX10_eye_103 ?_
                refine lv_iload_n hx hb dX10_eye_106 rfl (lv_at hl 2 rfl) ?_
                refine eb_iald (n := 6) X hw 7 (by decide) rfl rfl (eb_rngl (eb_nlt h1) (eb_nlt h2) (by decide) (by decide)) dX10_eye_107 ?_
                refine lv_bipush (v := 8) hx hb dX10_eye_108 (by decide) ?_
                refine lv_iload_n hx hb dX10_eye_110 rfl (lv_at hl 0 rfl) ?_
                refine lv_imul hx hb dX10_eye_111 ?_
                refine lv_iadd hx hb dX10_eye_112 ?_
                refine lv_bipush (v := 8) hx hb dX10_eye_113 (by decide) ?_
                obtain ⟨z10, qz10⟩ : ∃ t : Int64, t = m_X10_take σ ((σ.1 7 a0.toNatClampNeg) + (8 * x8)) 8 := ⟨_, rfl⟩
                have hm : z10 = mm := by rw [qz10]; exact hm
                have hc : eb_M l yX10_take (Cond.code yX10_take cX10_take 6 (some .long) :: wsL_law) 0 0 D 18 cy rL ad σ [.ref (ad 0), .int ((σ.1 7 a0.toNatClampNeg) + (8 * x8)), .int 8] (some (.long z10)) σ := by rw [qz10]; exact c_X10_take l D cy ad σ ((σ.1 7 a0.toNatClampNeg) + (8 * x8)) 8 (eb_eye (hj_.2.1 _ (eb_lt (show vp_in a0 6 from (eb_rngl (eb_nlt h1) (eb_nlt h2) (by decide) (by decide))))) h7 ex8 (eb_nle h9)).1 (eb_eye (hj_.2.1 _ (eb_lt (show vp_in a0 6 from (eb_rngl (eb_nlt h1) (eb_nlt h2) (by decide) (by decide))))) h7 ex8 (eb_nle h9)).2 (by decide)
                refine eb_callV (n := 2) (as := [.int ((σ.1 7 a0.toNatClampNeg) + (8 * x8)), .int 8]) (rest := []) X hw hl.1 0 hc (by decide) ⟨rfl, rfl, rfl⟩ (eb_goodV wi_12_0 wi_12_1 wi_12_2 wi_1_5 wi_12_3) rfl (by decide +kernel) ⟨by decide, by decide⟩ rfl rfl (Nat.le_of_ble_eq_true rfl) dX10_eye_115 ⟨by decide, by decide⟩ (st' := [.long z10]) rfl (fun H locs hw => ?_)
                refine lv_goto (tgt := 122) hx hb dX10_eye_118 (by decide) ?_
                subst hm
                exact eb_lret X hw rfl rfl rfl dX10_eye_122
            · have hm := (if_neg h7).symm.trans hm
              refine lv_iload_n hx hb dX10_eye_47 rfl (lv_at hl 2 rfl) ?_
              refine lv_bipush (v := 32) hx hb dX10_eye_48 (by decide) ?_
              refine lv_icmp_ne (tgt := 62) hx hb dX10_eye_50 (by decide) (fun h11 => ?_) (fun h11 => ?_)
              · have hm := (if_neg h11).symm.trans hm
                refine lv_iload_n hx hb dX10_eye_62 rfl (lv_at hl 2 rfl) ?_
                refine lv_bipush (v := 33) hx hb dX10_eye_63 (by decide) ?_
                refine lv_icmp_ne (tgt := 77) hx hb dX10_eye_65 (by decide) (fun h12 => ?_) (fun h12 => ?_)
                · have hm := (if_neg h12).symm.trans hm
                  refine lv_aload_n hx hb dX10_eye_77 rfl (lv_at hl 0 rfl) ?_
                  refine lv_iload_n hx hb dX10_eye_78 rfl (lv_at hl 1 rfl) ?_
                  obtain ⟨z13, qz13⟩ : ∃ t : Int64, t = m_X10_key σ a0 := ⟨_, rfl⟩
                  have hm : z13 = mm := by rw [qz13]; exact hm
                  have hc : eb_M l yX10_key (Cond.code yX10_key cX10_key 4 (some .long) :: wsL_law) 0 0 D 18 cy rL ad σ [.ref (ad 0), .int a0] (some (.long z13)) σ := by rw [qz13]; exact c_X10_key l D cy ad σ a0 (eb_rngl (eb_nlt h1) (eb_nlt h2) (by decide) (by decide))
                  refine eb_callV (n := 1) (as := [.int a0]) (rest := []) X hw hl.1 0 hc (by decide) ⟨rfl, rfl, rfl⟩ (eb_goodV wi_36_16 wi_36_17 wi_36_18 wi_1_5 wi_36_19) rfl (by decide +kernel) ⟨by decide, by decide⟩ rfl rfl (Nat.le_of_ble_eq_true rfl) dX10_eye_79 ⟨by decide, by decide⟩ (st' := [.long z13]) rfl (fun H locs hw => ?_)
                  subst hm
                  exact eb_lret X hw rfl rfl rfl dX10_eye_82
                · have hm := (if_pos h12).symm.trans hm
                  refine lv_aload_n hx hb dX10_eye_68 rfl (lv_at hl 0 rfl) ?_
                  refine eb_get (T := TX10) X hw 0 30 (by decide) ⟨rfl, rfl, rfl⟩ (by decide) (fun _ h => List.mem_cons_of_mem _ (inlX10 _ h)) (List.mem_cons_of_mem _ wi_6_0) (v := .ref (ad 14)) rfl dX10_eye_69 ?_
                  refine lv_iload_n hx hb dX10_eye_72 rfl (lv_at hl 1 rfl) ?_
                  refine eb_lald (n := 6) X hw 14 (by decide) rfl rfl (eb_rngl (eb_nlt h1) (eb_nlt h2) (by decide) (by decide)) dX10_eye_73 ?_
                  refine lv_goto (tgt := 82) hx hb dX10_eye_74 (by decide) ?_
                  subst hm
                  exact eb_lret X hw rfl rfl rfl dX10_eye_82
              · have hm := (if_pos h11).symm.trans hm
                refine lv_aload_n hx hb dX10_eye_53 rfl (lv_at hl 0 rfl) ?_
                refine eb_get (T := TX10) X hw 0 3 (by decide) ⟨rfl, rfl, rfl⟩ (by decide) (fun _ h => List.mem_cons_of_mem _ (inlX10 _ h)) (List.mem_cons_of_mem _ wi_5_10) (v := .ref (ad 3)) rfl dX10_eye_54 ?_
                refine lv_iload_n hx hb dX10_eye_57 rfl (lv_at hl 1 rfl) ?_
                refine eb_lald (n := 7) X hw 3 (by decide) rfl rfl (eb_rngl (eb_nlt h1) (eb_nlt h2) (by decide) (by decide)) dX10_eye_58 ?_
                refine lv_goto (tgt := 82) hx hb dX10_eye_59 (by decide) ?_
                subst hm
                exact eb_lret X hw rfl rfl rfl dX10_eye_82
          · have hm := (if_neg h6).symm.trans hm
            refine lv_aload_n hx hb dX10_eye_29 rfl (lv_at hl 0 rfl) ?_
            refine eb_get (T := TX10) X hw 0 2 (by decide) ⟨rfl, rfl, rfl⟩ (by decide) (fun _ h => List.mem_cons_of_mem _ (inlX10 _ h)) (List.mem_cons_of_mem _ wi_5_9) (v := .ref (ad 2)) rfl dX10_eye_30 ?_
            refine lv_bipush (v := 32) hx hb dX10_eye_33 (by decide) ?_
            refine lv_iload_n hx hb dX10_eye_35 rfl (lv_at hl 1 rfl) ?_
            refine lv_imul hx hb dX10_eye_36 ?_
            refine lv_iload_n hx hb dX10_eye_37 rfl (lv_at hl 2 rfl) ?_
            refine lv_iadd hx hb dX10_eye_38 ?_
            refine eb_lald (n := 224) X hw 2 (by decide) rfl rfl (eb_in_reg (eb_rngl (eb_nlt h1) (eb_nlt h2) (by decide) (by decide)) (eb_rng h5 (eb_nle h6) (by decide) (by decide))) dX10_eye_39 ?_
            subst hm
            exact eb_lret X hw rfl rfl rfl dX10_eye_40
        · have hm := (if_neg h5).symm.trans hm
          refine lv_lconst (v := 0) hx hb dX10_eye_21 (by decide) ?_
          subst hm
          exact eb_lret X hw rfl rfl rfl dX10_eye_22

theorem J_X10_fails {σ : eb_St} {a0 : Int32} {mm : eb_St} (hm : m_X10_fails σ a0 = mm) (hj_ : rJ σ) : rJ mm := by
  have hm : (if (σ.1 0 8) < 0 then (if (σ.1 0 4) = 0 then eb_pI (eb_pJ (eb_pI σ 0 6 a0) 0 7 (σ.2 0 36)) 0 5 1 else (fun (x3 : Int64) => eb_pI (eb_pJ (eb_pJ (eb_pJ (eb_pJ (eb_pI σ 0 6 a0) 0 7 (σ.2 0 36)) 0 17 x3) 0 18 a0.toInt64) 0 19 (σ.2 0 36)) 0 5 2) (((eb_pJ (eb_pI σ 0 6 a0) 0 7 (σ.2 0 36)).2 3 (6 : Int32).toNatClampNeg) &&& (-4))) else (fun (z4 : eb_St) => z4) (m_X10_ends σ 3 2 a0.toInt64)) = mm := hm
  refine eb_em (c := (σ.1 0 8) < 0) (fun h1 => ?_) (fun h1 => ?_)
  · have hm := (if_pos h1).symm.trans hm
    refine eb_em (c := (σ.1 0 4) = 0) (fun h2 => ?_) (fun h2 => ?_)
    · have hm := (if_pos h2).symm.trans hm
      subst hm
      exact hj_
    · have hm := (if_neg h2).symm.trans hm
      obtain ⟨x3, ex3⟩ : ∃ z : Int64, z = ((eb_pJ (eb_pI σ 0 6 a0) 0 7 (σ.2 0 36)).2 3 (6 : Int32).toNatClampNeg) &&& (-4) := ⟨_, rfl⟩
      have hm : eb_pI (eb_pJ (eb_pJ (eb_pJ (eb_pJ (eb_pI σ 0 6 a0) 0 7 (σ.2 0 36)) 0 17 x3) 0 18 a0.toInt64) 0 19 (σ.2 0 36)) 0 5 2 = mm := by rw [ex3]; exact hm
      subst hm
      exact hj_
  · have hm := (if_neg h1).symm.trans hm
    obtain ⟨z4, qz4⟩ : ∃ t : eb_St, t = m_X10_ends σ 3 2 a0.toInt64 := ⟨_, rfl⟩
    have hm : z4 = mm := by rw [qz4]; exact hm
    have jz4 : rJ z4 := J_X10_ends qz4.symm hj_ (rJ_in hj_ h1)
    subst hm
    exact jz4
set_option maxHeartbeats 4000000 in
set_option maxRecDepth 100000 in
theorem c_X10_fails (l : Launch) (D : va_G) (cy : Nat → ClassId) (ad : Nat → Nat) (σ : eb_St) (a0 : Int32) (hj_ : rJ σ) : eb_M l yX10_fails (Cond.code yX10_fails cX10_fails 2 none :: wsL_law) 2 49 D 18 cy rL ad σ [.ref (ad 0), .int a0] (none) (m_X10_fails σ a0) := by
  refine eb_start (own := RX10) (by decide) rfl rfl (Nat.le_of_ble_eq_true rfl) ?_
  intro p e s m args below meth c A ls X hw hl
  have hl : lv_has ls 2 [(0, .ref (ad 0)), (1, .int a0)] := hl
  have hx := X.1.1
  have hb := X.1.2.1
  have hown := X.1.2.2.2.1
  have hts := X.1.2.2.2.2
  generalize hm : m_X10_fails σ a0 = mm
  have hm : (if (σ.1 0 8) < 0 then (if (σ.1 0 4) = 0 then eb_pI (eb_pJ (eb_pI σ 0 6 a0) 0 7 (σ.2 0 36)) 0 5 1 else (fun (x3 : Int64) => eb_pI (eb_pJ (eb_pJ (eb_pJ (eb_pJ (eb_pI σ 0 6 a0) 0 7 (σ.2 0 36)) 0 17 x3) 0 18 a0.toInt64) 0 19 (σ.2 0 36)) 0 5 2) (((eb_pJ (eb_pI σ 0 6 a0) 0 7 (σ.2 0 36)).2 3 (6 : Int32).toNatClampNeg) &&& (-4))) else (fun (z4 : eb_St) => z4) (m_X10_ends σ 3 2 a0.toInt64)) = mm := hm
  refine lv_aload_n hx hb dX10_fails_0 rfl (lv_at hl 0 rfl) ?_
  refine eb_get (T := TX10) X hw 0 8 (by decide) ⟨rfl, rfl, rfl⟩ (by decide) (fun _ h => List.mem_cons_of_mem _ (inlX10 _ h)) (List.mem_cons_of_mem _ wi_5_13) (v := .int (σ.1 0 8)) rfl dX10_fails_1 ?_
  refine lv_if_lt (tgt := 18) hx hb dX10_fails_4 (by decide) (fun h1 => ?_) (fun h1 => ?_)
  · have hm := (if_pos h1).symm.trans hm
    refine lv_aload_n hx hb dX10_fails_18 rfl (lv_at hl 0 rfl) ?_
    refine lv_iload_n hx hb dX10_fails_19 rfl (lv_at hl 1 rfl) ?_
    refine eb_putI (T := TX10) X hw 0 6 (by decide) ⟨rfl, rfl, rfl⟩ (by decide) rfl (fun _ h => List.mem_cons_of_mem _ (inlX10 _ h)) (List.mem_cons_of_mem _ wi_5_12) tyX10 tyX10_ok nmX10 rfl rfl rfl dX10_fails_20 (fun H locs hw => ?_)
    refine lv_aload_n hx hb dX10_fails_23 rfl (lv_at hl 0 rfl) ?_
    refine lv_aload_n hx hb dX10_fails_24 rfl (lv_at hl 0 rfl) ?_
    refine eb_get (T := TX10) X hw 0 36 (by decide) ⟨rfl, rfl, rfl⟩ (by decide) (fun _ h => List.mem_cons_of_mem _ (inlX10 _ h)) (List.mem_cons_of_mem _ wi_29_17) (v := .long (σ.2 0 36)) rfl dX10_fails_25 ?_
    refine eb_putJ (T := TX10) X hw 0 7 (by decide) ⟨rfl, rfl, rfl⟩ (by decide) rfl (fun _ h => List.mem_cons_of_mem _ (inlX10 _ h)) (List.mem_cons_of_mem _ wi_9_9) tyX10 tyX10_ok nmX10 rfl rfl rfl dX10_fails_28 (fun H locs hw => ?_)
    refine lv_aload_n hx hb dX10_fails_31 rfl (lv_at hl 0 rfl) ?_
    refine eb_get (T := TX10) X hw 0 4 (by decide) ⟨rfl, rfl, rfl⟩ (by decide) (fun _ h => List.mem_cons_of_mem _ (inlX10 _ h)) (List.mem_cons_of_mem _ wi_5_11) (v := .int (σ.1 0 4)) rfl dX10_fails_32 ?_
    refine lv_if_eq (tgt := 75) hx hb dX10_fails_35 (by decide) (fun h2 => ?_) (fun h2 => ?_)
    · have hm := (if_pos h2).symm.trans hm
      refine lv_aload_n hx hb dX10_fails_75 rfl (lv_at hl 0 rfl) ?_
      refine lv_iconst (v := 1) hx hb dX10_fails_76 (by decide) ?_
      refine eb_putI (T := TX10) X hw 0 5 (by decide) ⟨rfl, rfl, rfl⟩ (by decide) rfl (fun _ h => List.mem_cons_of_mem _ (inlX10 _ h)) (List.mem_cons_of_mem _ wi_9_8) tyX10 tyX10_ok nmX10 rfl rfl rfl dX10_fails_77 (fun H locs hw => ?_)
      subst hm
      exact eb_vret X hw rfl rfl dX10_fails_80
    · have hm := (if_neg h2).symm.trans hm
      refine lv_aload_n hx hb dX10_fails_38 rfl (lv_at hl 0 rfl) ?_
      refine lv_aload_n hx hb dX10_fails_39 rfl (lv_at hl 0 rfl) ?_
      refine eb_get (T := TX10) X hw 0 3 (by decide) ⟨rfl, rfl, rfl⟩ (by decide) (fun _ h => List.mem_cons_of_mem _ (inlX10 _ h)) (List.mem_cons_of_mem _ wi_5_10) (v := .ref (ad 3)) rfl dX10_fails_40 ?_
      refine lv_bipush (v := 6) hx hb dX10_fails_43 (by decide) ?_
      refine eb_lald (n := 7) X hw 3 (by decide) rfl rfl (vp_in_iff.mpr ⟨by decide, by decide⟩) dX10_fails_45 ?_
      refine lv_ldc2 hx hb hown (hts _ (List.mem_cons_of_mem _ wi_36_7)) dX10_fails_46 ?_
      refine lv_land hx hb dX10_fails_49 ?_
      refine lv_topl (fun x3 ex3 => ?_)
      have hm : eb_pI (eb_pJ (eb_pJ (eb_pJ (eb_pJ (eb_pI σ 0 6 a0) 0 7 (σ.2 0 36)) 0 17 x3) 0 18 a0.toInt64) 0 19 (σ.2 0 36)) 0 5 2 = mm := by rw [ex3]; exact hm
      refine eb_putJ (T := TX10) X hw 0 17 (by decide) ⟨rfl, rfl, rfl⟩ (by decide) rfl (fun _ h => List.mem_cons_of_mem _ (inlX10 _ h)) (List.mem_cons_of_mem _ wi_9_18) tyX10 tyX10_ok nmX10 rfl rfl rfl dX10_fails_50 (fun H locs hw => ?_)
      refine lv_aload_n hx hb dX10_fails_53 rfl (lv_at hl 0 rfl) ?_
      refine lv_iload_n hx hb dX10_fails_54 rfl (lv_at hl 1 rfl) ?_
      refine lv_i2l (v := a0.toInt64) hx hb dX10_fails_55 rfl ?_
      refine eb_putJ (T := TX10) X hw 0 18 (by decide) ⟨rfl, rfl, rfl⟩ (by decide) rfl (fun _ h => List.mem_cons_of_mem _ (inlX10 _ h)) (List.mem_cons_of_mem _ wi_9_19) tyX10 tyX10_ok nmX10 rfl rfl rfl dX10_fails_56 (fun H locs hw => ?_)
      refine lv_aload_n hx hb dX10_fails_59 rfl (lv_at hl 0 rfl) ?_
      refine lv_aload_n hx hb dX10_fails_60 rfl (lv_at hl 0 rfl) ?_
      refine eb_get (T := TX10) X hw 0 36 (by decide) ⟨rfl, rfl, rfl⟩ (by decide) (fun _ h => List.mem_cons_of_mem _ (inlX10 _ h)) (List.mem_cons_of_mem _ wi_29_17) (v := .long (σ.2 0 36)) rfl dX10_fails_61 ?_
      refine eb_putJ (T := TX10) X hw 0 19 (by decide) ⟨rfl, rfl, rfl⟩ (by decide) rfl (fun _ h => List.mem_cons_of_mem _ (inlX10 _ h)) (List.mem_cons_of_mem _ wi_9_20) tyX10 tyX10_ok nmX10 rfl rfl rfl dX10_fails_64 (fun H locs hw => ?_)
      refine lv_aload_n hx hb dX10_fails_67 rfl (lv_at hl 0 rfl) ?_
      refine lv_iconst (v := 2) hx hb dX10_fails_68 (by decide) ?_
      refine eb_putI (T := TX10) X hw 0 5 (by decide) ⟨rfl, rfl, rfl⟩ (by decide) rfl (fun _ h => List.mem_cons_of_mem _ (inlX10 _ h)) (List.mem_cons_of_mem _ wi_9_8) tyX10 tyX10_ok nmX10 rfl rfl rfl dX10_fails_69 (fun H locs hw => ?_)
      refine lv_goto (tgt := 80) hx hb dX10_fails_72 (by decide) ?_
      subst hm
      exact eb_vret X hw rfl rfl dX10_fails_80
  · have hm := (if_neg h1).symm.trans hm
    refine lv_aload_n hx hb dX10_fails_7 rfl (lv_at hl 0 rfl) ?_
    refine lv_iconst (v := 3) hx hb dX10_fails_8 (by decide) ?_
    refine lv_ldc2 hx hb hown (hts _ (List.mem_cons_of_mem _ wi_31_12)) dX10_fails_9 ?_
    refine lv_iload_n hx hb dX10_fails_12 rfl (lv_at hl 1 rfl) ?_
    refine lv_i2l (v := a0.toInt64) hx hb dX10_fails_13 rfl ?_
    obtain ⟨z4, qz4⟩ : ∃ t : eb_St, t = m_X10_ends σ 3 2 a0.toInt64 := ⟨_, rfl⟩
    have hm : z4 = mm := by rw [qz4]; exact hm
    have jz4 : rJ z4 := J_X10_ends qz4.symm hj_ (rJ_in hj_ h1)
    have hc : eb_M l yX10_ends (Cond.code yX10_ends cX10_ends 6 none :: wsL_law) 1 24 D 18 cy rL ad σ [.ref (ad 0), .int 3, .long 2, .long a0.toInt64] (none) z4 := by rw [qz4]; exact c_X10_ends l D cy ad σ 3 2 a0.toInt64 hj_ (rJ_in hj_ h1)
    refine eb_callV (n := 3) (as := [.int 3, .long 2, .long a0.toInt64]) (rest := []) X hw hl.1 0 hc (by decide) ⟨rfl, rfl, rfl⟩ (eb_goodV wi_29_19 wi_29_20 wi_29_21 wi_1_5 wi_29_22) rfl (by decide +kernel) ⟨by decide, by decide⟩ rfl rfl (Nat.le_of_ble_eq_true rfl) dX10_fails_14 ⟨by decide, by decide⟩ (st' := []) rfl (fun H locs hw => ?_)
    subst hm
    exact eb_vret X hw rfl rfl dX10_fails_17
