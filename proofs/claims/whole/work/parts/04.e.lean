def m_X10_makes_113  : Nat → eb_St → Int32 → Int32 → eb_St
  | 0, σ, _, _ => σ
  | n + 1, σ, v1, v6 => (if (32 : Int32) ≤ v6 then eb_pI (eb_pI σ 0 10 ((σ.1 0 10) + 1)) 0 35 0 else (fun (x8 : Int32) => m_X10_makes_113  n (eb_pJ σ 2 (((32 * v1) + v6).toNatClampNeg) 0) v1 x8) (v6 + 1))
def m_X10_makes_36  : Nat → eb_St → Int32 → Int32 → Int32 → Int32 → Int32 → eb_St
  | 0, σ, _, _, _, _, _ => σ
  | n + 1, σ, v1, v2, v3, v5, v6 => (if v3 ≤ v6 then m_X10_makes_113  33 (eb_pI (eb_pI (eb_pI (eb_pI (eb_pI σ 7 v1.toNatClampNeg v2) 8 v1.toNatClampNeg v3) 6 v1.toNatClampNeg 1) 12 v1.toNatClampNeg 0) 13 v1.toNatClampNeg 0) v1 0 else (if v5 ≤ v6 then (fun (x5 : Int32) => m_X10_makes_36  n (eb_pI σ 1 ((v2 + v6).toNatClampNeg) (vp_nar .byte 0)) v1 v2 v3 v5 x5) (v6 + 1) else (fun (x6 : Int32) => m_X10_makes_36  n (eb_pI σ 1 ((v2 + v6).toNatClampNeg) (vp_nar .byte (σ.1 17 v6.toNatClampNeg))) v1 v2 v3 v5 x6) (v6 + 1)))
def m_X10_makes_3  : Nat → eb_St → Int32 → Int32 → Int32 → Int32 → Int32 → Int32 → eb_St
  | 0, σ, _, _, _, _, _, _ => σ
  | n + 1, σ, v1, v2, v3, v4, v5, v6 => (if v5 ≤ v6 then m_X10_makes_36  ((v3.toInt - (0 : Int32).toInt).toNat + 1) σ v1 v2 v3 v5 0 else (fun (x2 : Int32) => m_X10_makes_3  n (eb_pI σ 17 v6.toNatClampNeg (vp_nar .byte (σ.1 1 (v4 + v6).toNatClampNeg))) v1 v2 v3 v4 v5 x2) (v6 + 1))
def m_X10_makes (σ : eb_St) (a0 : Int32) (a1 : Int32) (a2 : Int32) (a3 : Int32) (a4 : Int32) : eb_St := m_X10_makes_3  ((a4.toInt - (0 : Int32).toInt).toNat + 1) σ a0 a1 a2 a3 a4 0

def m_X10_measured_41  : Nat → eb_St → Int32 → Int64 → Int32 → eb_St
  | 0, σ, _, _, _ => σ
  | n + 1, σ, v1, v3, v5 => (if (24 : Int32) ≤ v5 then (fun (x5 : Int64) => eb_pJ (eb_pJ σ 14 v1.toNatClampNeg v3) 3 v1.toNatClampNeg x5) ((((eb_pJ σ 14 v1.toNatClampNeg v3).1 7 v1.toNatClampNeg).toInt64) + (((eb_pJ σ 14 v1.toNatClampNeg v3).1 9 v1.toNatClampNeg).toInt64)) else (if (8 : Int32) ≤ v5 then (if (16 : Int32) ≤ v5 then (fun (x8 : Int32) => (if (4 : Int32) ≤ (v5 - v5 / 8 * 8) then (fun (x10 : Int64) => (fun (x11 : Int32) => m_X10_measured_41  n σ v1 x10 x11) (v5 + 1)) ((v3 ^^^ ((0 : Int32).toInt64)) * 1099511628211) else (fun (x12 : Int32) => (fun (x13 : Int64) => (fun (x14 : Int32) => m_X10_measured_41  n σ v1 x13 x14) (v5 + 1)) ((v3 ^^^ x12.toInt64) * 1099511628211)) ((x8 >>> ((8 * (v5 - v5 / 8 * 8)) &&& 31)) &&& 255))) (σ.1 11 v1.toNatClampNeg) else (fun (x15 : Int32) => (if (4 : Int32) ≤ (v5 - v5 / 8 * 8) then (fun (x17 : Int64) => (fun (x18 : Int32) => m_X10_measured_41  n σ v1 x17 x18) (v5 + 1)) ((v3 ^^^ ((0 : Int32).toInt64)) * 1099511628211) else (fun (x19 : Int32) => (fun (x20 : Int64) => (fun (x21 : Int32) => m_X10_measured_41  n σ v1 x20 x21) (v5 + 1)) ((v3 ^^^ x19.toInt64) * 1099511628211)) ((x15 >>> ((8 * (v5 - v5 / 8 * 8)) &&& 31)) &&& 255))) (σ.1 9 v1.toNatClampNeg)) else (fun (x22 : Int32) => (if (4 : Int32) ≤ (v5 - v5 / 8 * 8) then (fun (x24 : Int64) => (fun (x25 : Int32) => m_X10_measured_41  n σ v1 x24 x25) (v5 + 1)) ((v3 ^^^ ((0 : Int32).toInt64)) * 1099511628211) else (fun (x26 : Int32) => (fun (x27 : Int64) => (fun (x28 : Int32) => m_X10_measured_41  n σ v1 x27 x28) (v5 + 1)) ((v3 ^^^ x26.toInt64) * 1099511628211)) ((x22 >>> ((8 * (v5 - v5 / 8 * 8)) &&& 31)) &&& 255))) (σ.1 8 v1.toNatClampNeg)))
def m_X10_measured_7  : Nat → eb_St → Int32 → Int32 → Int64 → Int32 → eb_St
  | 0, σ, _, _, _, _ => σ
  | n + 1, σ, v1, v2, v3, v5 => (if v2 ≤ v5 then m_X10_measured_41  25 σ v1 v3 0 else (fun (x2 : Int64) => (fun (x3 : Int32) => m_X10_measured_7  n σ v1 v2 x2 x3) (v5 + 1)) ((v3 ^^^ (((σ.1 17 v5.toNatClampNeg) &&& 255).toInt64)) * 1099511628211))
def m_X10_measured (σ : eb_St) (a0 : Int32) (a1 : Int32) : eb_St := m_X10_measured_7  ((a1.toInt - (0 : Int32).toInt).toNat + 1) σ a0 a1 (-3750763034362895579) 0

def m_X10_create_206  : Nat → eb_St → Int64 → Int64 → Int64 → Int64 → Int64 → Int64 → Int64 → Int32 → Int32 → Int64 × eb_St
  | 0, σ, _, _, _, _, _, _, _, _, _ => (0, σ)
  | n + 1, σ, v1, v3, v5, v7, v9, v11, v13, v15, v16 => (if v16 < 0 then (fun (z29 : Bool × eb_St) => (if (eb_b z29.1) = 0 then ((-4), z29.2) else (fun (z31 : Bool × eb_St) => (if (eb_b z31.1) = 0 then ((-4), z31.2) else (fun (z33 : Bool × eb_St) => (if (eb_b z33.1) = 0 then ((-4), z33.2) else (if v15 = (-1) then ((-3), z33.2) else (fun (z36 : eb_St) => (if v13 = 0 then (fun (z39 : eb_St) => (v15.toInt64, z39)) (m_X10_measured (eb_pI (eb_pI (eb_pI z36 9 v15.toNatClampNeg v9.toInt32) 10 v15.toNatClampNeg 0) 11 v15.toNatClampNeg v13.toInt32) v15 v7.toInt32) else (fun (z38 : eb_St) => (v15.toInt64, z38)) (m_X10_measured (eb_pI (eb_pI (eb_pI z36 9 v15.toNatClampNeg v9.toInt32) 10 v15.toNatClampNeg v11.toInt32) 11 v15.toNatClampNeg v13.toInt32) v15 v7.toInt32))) (m_X10_makes z33.2 v15 v1.toInt32 v3.toInt32 v5.toInt32 v7.toInt32)))) (m_X10_mayAll z31.2 v5 v7 1))) (m_X10_mayAll z29.2 v11 v13 3))) (m_X10_mayAll σ v1 v3 3) else (fun (z40 : Bool) => (if (eb_b z40) = 0 then (fun (x49 : Int32) => m_X10_create_206  n σ v1 v3 v5 v7 v9 v11 v13 v16 x49) (v16 + (-1)) else (fun (z42 : Bool) => (if (eb_b z42) = 0 then (fun (z44 : Bool) => (if (eb_b z44) = 0 then (fun (z46 : Bool) => (if (eb_b z46) = 0 then (fun (x48 : Int32) => m_X10_create_206  n σ v1 v3 v5 v7 v9 v11 v13 v15 x48) (v16 + (-1)) else ((-2), σ))) (m_X10_meet v11 v13 ((σ.1 7 v16.toNatClampNeg).toInt64) ((σ.1 8 v16.toNatClampNeg).toInt64)) else ((-2), σ))) (m_X10_meet v1 v3 ((σ.1 10 v16.toNatClampNeg).toInt64) ((σ.1 11 v16.toNatClampNeg).toInt64)) else ((-2), σ))) (m_X10_meet v1 v3 ((σ.1 7 v16.toNatClampNeg).toInt64) ((σ.1 8 v16.toNatClampNeg).toInt64)))) (m_X10_isLive σ v16))
def m_X10_create_200  (σ : eb_St) (v1 : Int64) (v3 : Int64) (v5 : Int64) (v7 : Int64) (v9 : Int64) (v11 : Int64) (v13 : Int64) : Int64 × eb_St := m_X10_create_206  7 σ v1 v3 v5 v7 v9 v11 v13 (-1) 5
def m_X10_create_167  (σ : eb_St) (v1 : Int64) (v3 : Int64) (v5 : Int64) (v7 : Int64) (v9 : Int64) (v11 : Int64) (v13 : Int64) : Int64 × eb_St := (if v13 = 0 then m_X10_create_200  σ v1 v3 v5 v7 v9 v11 v13 else (fun (z24 : Bool) => (if (eb_b z24) = 0 then ((-1), σ) else (fun (z26 : Bool) => (if (eb_b z26) = 0 then m_X10_create_200  σ v1 v3 v5 v7 v9 v11 v13 else ((-1), σ))) (m_X10_meet v1 v3 v11 v13))) (m_X10_isTold v11 v13))
def m_X10_create_119  (σ : eb_St) (v1 : Int64) (v3 : Int64) (v5 : Int64) (v7 : Int64) (v9 : Int64) (v11 : Int64) (v13 : Int64) : Int64 × eb_St := (fun (z17 : Bool) => (if (eb_b z17) = 0 then ((-1), σ) else (if (v9 - v9 / 4 * 4) = 0 then (if v13 = 0 then m_X10_create_167  σ v1 v3 v5 v7 v9 v11 v13 else (fun (z21 : Bool) => (if (eb_b z21) = 0 then ((-1), σ) else m_X10_create_167  σ v1 v3 v5 v7 v9 v11 v13)) (m_X10_isPower v13 8 4096)) else ((-1), σ)))) (m_X10_in v9 0 (v3 - 1))
def m_X10_create (σ : eb_St)  : Int64 × eb_St := (fun (z1 : Int64) => (fun (z2 : Int64) => (fun (z3 : Int64) => (fun (z4 : Int64) => (fun (z5 : Int64) => (fun (z6 : Int64) => (fun (z7 : Int64) => (fun (z8 : Bool) => (if (eb_b z8) = 0 then ((-1), σ) else (fun (z10 : Bool) => (if (eb_b z10) = 0 then ((-1), σ) else (fun (z12 : Bool) => (if (eb_b z12) = 0 then ((-1), σ) else (if z4 ≤ 0 then m_X10_create_119  σ z1 z2 z3 z4 z5 z6 z7 else (if z3 < 0 then ((-1), σ) else (if z3 ≤ (65536 - z4) then m_X10_create_119  σ z1 z2 z3 z4 z5 z6 z7 else ((-1), σ)))))) (m_X10_in z4 0 z2))) (m_X10_isTold z1 z2))) (m_X10_isPower z2 32 16384)) (m_X10_x σ 16)) (m_X10_x σ 15)) (m_X10_x σ 14)) (m_X10_x σ 13)) (m_X10_x σ 12)) (m_X10_x σ 11)) (m_X10_x σ 10)
theorem J_X10_makes_113 : ∀ (n : Nat) (σ : eb_St) (v1 : Int32) (v6 : Int32) {mm : eb_St} (_ : (m_X10_makes_113  n σ v1 v6) = mm) (hj_ : rJ σ) (i0_ : 0 ≤ v6.toInt) (i1_ : vp_in v1 6) (hn : ((32 : Int32).toInt - v6.toInt).toNat < n), rJ mm := by
  intro n
  induction n with
  | zero => intro σ v1 v6 mm hm hj_ i0_ i1_ hn; exact absurd hn (Nat.not_lt_zero _)
  | succ n ih =>
    intro σ v1 v6 mm hm hj_ i0_ i1_ hn
    have hm : (if (32 : Int32) ≤ v6 then eb_pI (eb_pI σ 0 10 ((σ.1 0 10) + 1)) 0 35 0 else (fun (x8 : Int32) => m_X10_makes_113  n (eb_pJ σ 2 (((32 * v1) + v6).toNatClampNeg) 0) v1 x8) (v6 + 1)) = mm := hm
    refine eb_em (c := (32 : Int32) ≤ v6) (fun h7 => ?_) (fun h7 => ?_)
    · have hm := (if_pos h7).symm.trans hm
      subst hm
      exact hj_
    · have hm := (if_neg h7).symm.trans hm
      obtain ⟨x8, ex8⟩ : ∃ z : Int32, z = v6 + 1 := ⟨_, rfl⟩
      have hm : m_X10_makes_113  n (eb_pJ σ 2 (((32 * v1) + v6).toNatClampNeg) 0) v1 x8 = mm := by rw [ex8]; exact hm
      exact ih (eb_pJ σ 2 (((32 * v1) + v6).toNatClampNeg) 0) v1 x8 hm hj_ (eb_up i0_ (eb_nle h7) ex8 hn).1 i1_ (eb_up i0_ (eb_nle h7) ex8 hn).2
theorem J_X10_makes_36 : ∀ (n : Nat) (σ : eb_St) (v1 : Int32) (v2 : Int32) (v3 : Int32) (v5 : Int32) (v6 : Int32) {mm : eb_St} (_ : (m_X10_makes_36  n σ v1 v2 v3 v5 v6) = mm) (hj_ : rJ σ) (i0_ : vp_in v1 6) (i1_ : 0 ≤ v2.toInt ∧ 8 ≤ v3.toInt ∧ v2.toInt + v3.toInt ≤ 65536) (i2_ : 0 ≤ v5.toInt ∧ v5.toInt ≤ 16384) (i3_ : 0 ≤ v6.toInt) (hn : (v3.toInt - v6.toInt).toNat < n), rJ mm := by
  intro n
  induction n with
  | zero => intro σ v1 v2 v3 v5 v6 mm hm hj_ i0_ i1_ i2_ i3_ hn; exact absurd hn (Nat.not_lt_zero _)
  | succ n ih =>
    intro σ v1 v2 v3 v5 v6 mm hm hj_ i0_ i1_ i2_ i3_ hn
    have hm : (if v3 ≤ v6 then m_X10_makes_113  33 (eb_pI (eb_pI (eb_pI (eb_pI (eb_pI σ 7 v1.toNatClampNeg v2) 8 v1.toNatClampNeg v3) 6 v1.toNatClampNeg 1) 12 v1.toNatClampNeg 0) 13 v1.toNatClampNeg 0) v1 0 else (if v5 ≤ v6 then (fun (x5 : Int32) => m_X10_makes_36  n (eb_pI σ 1 ((v2 + v6).toNatClampNeg) (vp_nar .byte 0)) v1 v2 v3 v5 x5) (v6 + 1) else (fun (x6 : Int32) => m_X10_makes_36  n (eb_pI σ 1 ((v2 + v6).toNatClampNeg) (vp_nar .byte (σ.1 17 v6.toNatClampNeg))) v1 v2 v3 v5 x6) (v6 + 1))) = mm := hm
    refine eb_em (c := v3 ≤ v6) (fun h3 => ?_) (fun h3 => ?_)
    · have hm := (if_pos h3).symm.trans hm
      exact J_X10_makes_113 33 (eb_pI (eb_pI (eb_pI (eb_pI (eb_pI σ 7 v1.toNatClampNeg v2) 8 v1.toNatClampNeg v3) 6 v1.toNatClampNeg 1) 12 v1.toNatClampNeg 0) 13 v1.toNatClampNeg 0) v1 0 hm (show rJ (eb_pI (eb_pI (eb_pI σ 7 v1.toNatClampNeg v2) 8 v1.toNatClampNeg v3) 6 v1.toNatClampNeg 1) from rJ_w (show rJ (eb_pI (eb_pI σ 7 v1.toNatClampNeg v2) 8 v1.toNatClampNeg v3) from rJ_bs hj_ i1_) (Or.inr (by rw [eb_rdI]; exact i1_.2.1))) (by decide) i0_ (by decide)
    · have hm := (if_neg h3).symm.trans hm
      refine eb_em (c := v5 ≤ v6) (fun h4 => ?_) (fun h4 => ?_)
      · have hm := (if_pos h4).symm.trans hm
        obtain ⟨x5, ex5⟩ : ∃ z : Int32, z = v6 + 1 := ⟨_, rfl⟩
        have hm : m_X10_makes_36  n (eb_pI σ 1 ((v2 + v6).toNatClampNeg) (vp_nar .byte 0)) v1 v2 v3 v5 x5 = mm := by rw [ex5]; exact hm
        exact ih (eb_pI σ 1 ((v2 + v6).toNatClampNeg) (vp_nar .byte 0)) v1 v2 v3 v5 x5 hm hj_ i0_ i1_ i2_ (eb_up i3_ (eb_nle h3) ex5 hn).1 (eb_up1 (eb_nle h3) ex5 hn)
      · have hm := (if_neg h4).symm.trans hm
        obtain ⟨x6, ex6⟩ : ∃ z : Int32, z = v6 + 1 := ⟨_, rfl⟩
        have hm : m_X10_makes_36  n (eb_pI σ 1 ((v2 + v6).toNatClampNeg) (vp_nar .byte (σ.1 17 v6.toNatClampNeg))) v1 v2 v3 v5 x6 = mm := by rw [ex6]; exact hm
        exact ih (eb_pI σ 1 ((v2 + v6).toNatClampNeg) (vp_nar .byte (σ.1 17 v6.toNatClampNeg))) v1 v2 v3 v5 x6 hm hj_ i0_ i1_ i2_ (eb_up i3_ (eb_nle h3) ex6 hn).1 (eb_up1 (eb_nle h3) ex6 hn)
theorem J_X10_makes_3 : ∀ (n : Nat) (σ : eb_St) (v1 : Int32) (v2 : Int32) (v3 : Int32) (v4 : Int32) (v5 : Int32) (v6 : Int32) {mm : eb_St} (_ : (m_X10_makes_3  n σ v1 v2 v3 v4 v5 v6) = mm) (hj_ : rJ σ) (i0_ : vp_in v1 6) (i1_ : 0 ≤ v2.toInt ∧ 8 ≤ v3.toInt ∧ v2.toInt + v3.toInt ≤ 65536) (i2_ : 0 ≤ v5.toInt ∧ v5.toInt ≤ 16384) (i3_ : v5.toInt = 0 ∨ (0 ≤ v4.toInt ∧ v4.toInt + v5.toInt ≤ 65536)) (i4_ : 0 ≤ v6.toInt) (hn : (v5.toInt - v6.toInt).toNat < n), rJ mm := by
  intro n
  induction n with
  | zero => intro σ v1 v2 v3 v4 v5 v6 mm hm hj_ i0_ i1_ i2_ i3_ i4_ hn; exact absurd hn (Nat.not_lt_zero _)
  | succ n ih =>
    intro σ v1 v2 v3 v4 v5 v6 mm hm hj_ i0_ i1_ i2_ i3_ i4_ hn
    have hm : (if v5 ≤ v6 then m_X10_makes_36  ((v3.toInt - (0 : Int32).toInt).toNat + 1) σ v1 v2 v3 v5 0 else (fun (x2 : Int32) => m_X10_makes_3  n (eb_pI σ 17 v6.toNatClampNeg (vp_nar .byte (σ.1 1 (v4 + v6).toNatClampNeg))) v1 v2 v3 v4 v5 x2) (v6 + 1)) = mm := hm
    refine eb_em (c := v5 ≤ v6) (fun h1 => ?_) (fun h1 => ?_)
    · have hm := (if_pos h1).symm.trans hm
      exact J_X10_makes_36 ((v3.toInt - (0 : Int32).toInt).toNat + 1) σ v1 v2 v3 v5 0 hm hj_ i0_ i1_ i2_ (by decide) (Nat.lt_succ_self _)
    · have hm := (if_neg h1).symm.trans hm
      obtain ⟨x2, ex2⟩ : ∃ z : Int32, z = v6 + 1 := ⟨_, rfl⟩
      have hm : m_X10_makes_3  n (eb_pI σ 17 v6.toNatClampNeg (vp_nar .byte (σ.1 1 (v4 + v6).toNatClampNeg))) v1 v2 v3 v4 v5 x2 = mm := by rw [ex2]; exact hm
      exact ih (eb_pI σ 17 v6.toNatClampNeg (vp_nar .byte (σ.1 1 (v4 + v6).toNatClampNeg))) v1 v2 v3 v4 v5 x2 hm hj_ i0_ i1_ i2_ i3_ (eb_up i4_ (eb_nle h1) ex2 hn).1 (eb_up1 (eb_nle h1) ex2 hn)
theorem J_X10_makes {σ : eb_St} {a0 : Int32} {a1 : Int32} {a2 : Int32} {a3 : Int32} {a4 : Int32} {mm : eb_St} (hm : m_X10_makes σ a0 a1 a2 a3 a4 = mm) (hj_ : rJ σ) (h0_ : vp_in a0 6) (h1_ : 0 ≤ a1.toInt ∧ 8 ≤ a2.toInt ∧ a1.toInt + a2.toInt ≤ 65536) (h2_ : 0 ≤ a4.toInt ∧ a4.toInt ≤ 16384) (h3_ : a4.toInt = 0 ∨ (0 ≤ a3.toInt ∧ a3.toInt + a4.toInt ≤ 65536)) : rJ mm := by
  have hm : m_X10_makes_3  ((a4.toInt - (0 : Int32).toInt).toNat + 1) σ a0 a1 a2 a3 a4 0 = mm := hm
  exact J_X10_makes_3 ((a4.toInt - (0 : Int32).toInt).toNat + 1) σ a0 a1 a2 a3 a4 0 hm hj_ h0_ h1_ h2_ h3_ (by decide) (Nat.lt_succ_self _)
set_option maxHeartbeats 4000000 in
set_option maxRecDepth 100000 in
theorem k_X10_makes_113 {p : Program} {l : Launch} {e : Env} {s : State} {m : MethodId} {args : Array Value} {below : List Frame} {meth : Method} {c : Code} {A : Nat → Prop} {D : va_G} {cy : Nat → ClassId} {ad : Nat → Nat} (X : eb_X p s m args meth c cX10_makes 7 RX10 (Cond.code yX10_makes cX10_makes 7 none :: wsL_law) none D cy A)   : ∀ (n : Nat) (σ : eb_St) (v1 : Int32) (v6 : Int32) (hj_ : rJ σ) (i0_ : 0 ≤ v6.toInt) (i1_ : vp_in v1 6) (hn : ((32 : Int32).toInt - v6.toInt).toNat < n) {H : Heap} {locs : List Loc} {ls : Array Slot} {mm : eb_St} (_ : (m_X10_makes_113  n σ v1 v6) = mm) (hw : eb_H D 18 cy rL ad A s.heap σ H locs) (hl : lv_has ls 7 [(0, .ref (ad 0)), (1, .int v1), (6, .int v6)]), W p l e ({ frames := 0, cells := 0, slots := 0, locals := 0 } : Room) s m args below meth c H locs 0 0 (MQ below (eb_Q D 18 cy rL ad A (none) mm) args s 0 0 A) (F0 m 113 ls []) := by
  have hx := X.1.1
  have hb := X.1.2.1
  have hown := X.1.2.2.2.1
  have hts := X.1.2.2.2.2
  intro n
  induction n with
  | zero => intro σ v1 v6 hj_ i0_ i1_ hn; exact absurd hn (Nat.not_lt_zero _)
  | succ n ih =>
    intro σ v1 v6 hj_ i0_ i1_ hn H locs ls mm hm hw hl
    have hm : (if (32 : Int32) ≤ v6 then eb_pI (eb_pI σ 0 10 ((σ.1 0 10) + 1)) 0 35 0 else (fun (x8 : Int32) => m_X10_makes_113  n (eb_pJ σ 2 (((32 * v1) + v6).toNatClampNeg) 0) v1 x8) (v6 + 1)) = mm := hm
    refine lv_iload hx hb dX10_makes_113 (lv_at hl 2 rfl) ?_
    refine lv_bipush (v := 32) hx hb dX10_makes_115 (by decide) ?_
    refine lv_icmp_ge (tgt := 139) hx hb dX10_makes_117 (by decide) (fun h7 => ?_) (fun h7 => ?_)
    · have hm := (if_pos h7).symm.trans hm
      refine lv_aload_n hx hb dX10_makes_139 rfl (lv_at hl 0 rfl) ?_
      refine lv_dup hx hb dX10_makes_140 rfl ?_
      refine eb_get (T := TX10) X hw 0 10 (by decide) ⟨rfl, rfl, rfl⟩ (by decide) (fun _ h => List.mem_cons_of_mem _ (inlX10 _ h)) (List.mem_cons_of_mem _ wi_9_11) (v := .int (σ.1 0 10)) rfl dX10_makes_141 ?_
      refine lv_iconst (v := 1) hx hb dX10_makes_144 (by decide) ?_
      refine lv_iadd hx hb dX10_makes_145 ?_
      refine eb_putI (T := TX10) X hw 0 10 (by decide) ⟨rfl, rfl, rfl⟩ (by decide) rfl (fun _ h => List.mem_cons_of_mem _ (inlX10 _ h)) (List.mem_cons_of_mem _ wi_9_11) tyX10 tyX10_ok nmX10 rfl rfl rfl dX10_makes_146 (fun H locs hw => ?_)
      refine lv_aload_n hx hb dX10_makes_149 rfl (lv_at hl 0 rfl) ?_
      refine lv_iconst (v := 0) hx hb dX10_makes_150 (by decide) ?_
      refine eb_putI (T := TX10) X hw 0 35 (by decide) ⟨rfl, rfl, rfl⟩ (by decide) rfl (fun _ h => List.mem_cons_of_mem _ (inlX10 _ h)) (List.mem_cons_of_mem _ wi_9_21) tyX10 tyX10_ok nmX10 rfl rfl rfl dX10_makes_151 (fun H locs hw => ?_)
      subst hm
      exact eb_vret X hw rfl rfl dX10_makes_154
    · have hm := (if_neg h7).symm.trans hm
      refine lv_aload_n hx hb dX10_makes_120 rfl (lv_at hl 0 rfl) ?_
      refine eb_get (T := TX10) X hw 0 2 (by decide) ⟨rfl, rfl, rfl⟩ (by decide) (fun _ h => List.mem_cons_of_mem _ (inlX10 _ h)) (List.mem_cons_of_mem _ wi_5_9) (v := .ref (ad 2)) rfl dX10_makes_121 ?_
      refine lv_bipush (v := 32) hx hb dX10_makes_124 (by decide) ?_
      refine lv_iload_n hx hb dX10_makes_126 rfl (lv_at hl 1 rfl) ?_
      refine lv_imul hx hb dX10_makes_127 ?_
      refine lv_iload hx hb dX10_makes_128 (lv_at hl 2 rfl) ?_
      refine lv_iadd hx hb dX10_makes_130 ?_
      refine lv_lconst (v := 0) hx hb dX10_makes_131 (by decide) ?_
      refine eb_last (n := 224) X hw 2 (by decide) rfl rfl (eb_in_reg (eb_wid i1_ (by decide)) (eb_inU (by decide) i0_ (eb_nle h7))) dX10_makes_132 (fun H locs hw => ?_)
      obtain ⟨x8, ex8⟩ : ∃ z : Int32, z = v6 + 1 := ⟨_, rfl⟩
      have hm : m_X10_makes_113  n (eb_pJ σ 2 (((32 * v1) + v6).toNatClampNeg) 0) v1 x8 = mm := by rw [ex8]; exact hm
      refine lv_iinc (v := x8) (lv' := [(6, .int x8), (0, .ref (ad 0)), (1, .int v1)]) hx hb dX10_makes_133 hl (k := 2) rfl (by rw [ex8]; exact congrArg (v6 + ·) (by decide)) (by decide) rfl (fun ls hl => ?_)
      refine lv_goto (tgt := 113) hx hb dX10_makes_136 (by decide) ?_
      exact ih (eb_pJ σ 2 (((32 * v1) + v6).toNatClampNeg) 0) v1 x8 hj_ (eb_up i0_ (eb_nle h7) ex8 hn).1 i1_ (eb_up i0_ (eb_nle h7) ex8 hn).2 hm hw (lv_sub hl [1, 2, 0] rfl)
set_option maxHeartbeats 4000000 in
set_option maxRecDepth 100000 in
theorem k_X10_makes_36 {p : Program} {l : Launch} {e : Env} {s : State} {m : MethodId} {args : Array Value} {below : List Frame} {meth : Method} {c : Code} {A : Nat → Prop} {D : va_G} {cy : Nat → ClassId} {ad : Nat → Nat} (X : eb_X p s m args meth c cX10_makes 7 RX10 (Cond.code yX10_makes cX10_makes 7 none :: wsL_law) none D cy A)   : ∀ (n : Nat) (σ : eb_St) (v1 : Int32) (v2 : Int32) (v3 : Int32) (v5 : Int32) (v6 : Int32) (hj_ : rJ σ) (i0_ : vp_in v1 6) (i1_ : 0 ≤ v2.toInt ∧ 8 ≤ v3.toInt ∧ v2.toInt + v3.toInt ≤ 65536) (i2_ : 0 ≤ v5.toInt ∧ v5.toInt ≤ 16384) (i3_ : 0 ≤ v6.toInt) (hn : (v3.toInt - v6.toInt).toNat < n) {H : Heap} {locs : List Loc} {ls : Array Slot} {mm : eb_St} (_ : (m_X10_makes_36  n σ v1 v2 v3 v5 v6) = mm) (hw : eb_H D 18 cy rL ad A s.heap σ H locs) (hl : lv_has ls 7 [(0, .ref (ad 0)), (1, .int v1), (2, .int v2), (3, .int v3), (5, .int v5), (6, .int v6)]), W p l e ({ frames := 0, cells := 0, slots := 0, locals := 0 } : Room) s m args below meth c H locs 0 0 (MQ below (eb_Q D 18 cy rL ad A (none) mm) args s 0 0 A) (F0 m 36 ls []) := by
  have hx := X.1.1
  have hb := X.1.2.1
  have hown := X.1.2.2.2.1
  have hts := X.1.2.2.2.2
  intro n
  induction n with
  | zero => intro σ v1 v2 v3 v5 v6 hj_ i0_ i1_ i2_ i3_ hn; exact absurd hn (Nat.not_lt_zero _)
  | succ n ih =>
    intro σ v1 v2 v3 v5 v6 hj_ i0_ i1_ i2_ i3_ hn H locs ls mm hm hw hl
    have hm : (if v3 ≤ v6 then m_X10_makes_113  33 (eb_pI (eb_pI (eb_pI (eb_pI (eb_pI σ 7 v1.toNatClampNeg v2) 8 v1.toNatClampNeg v3) 6 v1.toNatClampNeg 1) 12 v1.toNatClampNeg 0) 13 v1.toNatClampNeg 0) v1 0 else (if v5 ≤ v6 then (fun (x5 : Int32) => m_X10_makes_36  n (eb_pI σ 1 ((v2 + v6).toNatClampNeg) (vp_nar .byte 0)) v1 v2 v3 v5 x5) (v6 + 1) else (fun (x6 : Int32) => m_X10_makes_36  n (eb_pI σ 1 ((v2 + v6).toNatClampNeg) (vp_nar .byte (σ.1 17 v6.toNatClampNeg))) v1 v2 v3 v5 x6) (v6 + 1))) = mm := hm
    refine lv_iload hx hb dX10_makes_36 (lv_at hl 5 rfl) ?_
    refine lv_iload_n hx hb dX10_makes_38 rfl (lv_at hl 3 rfl) ?_
    refine lv_icmp_ge (tgt := 75) hx hb dX10_makes_39 (by decide) (fun h3 => ?_) (fun h3 => ?_)
    · have hm := (if_pos h3).symm.trans hm
      refine lv_aload_n hx hb dX10_makes_75 rfl (lv_at hl 0 rfl) ?_
      refine eb_get (T := TX10) X hw 0 23 (by decide) ⟨rfl, rfl, rfl⟩ (by decide) (fun _ h => List.mem_cons_of_mem _ (inlX10 _ h)) (List.mem_cons_of_mem _ wi_5_17) (v := .ref (ad 7)) rfl dX10_makes_76 ?_
      refine lv_iload_n hx hb dX10_makes_79 rfl (lv_at hl 1 rfl) ?_
      refine lv_iload_n hx hb dX10_makes_80 rfl (lv_at hl 2 rfl) ?_
      refine eb_iast (n := 6) X hw 7 (by decide) rfl rfl i0_ dX10_makes_81 (fun H locs hw => ?_)
      refine lv_aload_n hx hb dX10_makes_82 rfl (lv_at hl 0 rfl) ?_
      refine eb_get (T := TX10) X hw 0 24 (by decide) ⟨rfl, rfl, rfl⟩ (by decide) (fun _ h => List.mem_cons_of_mem _ (inlX10 _ h)) (List.mem_cons_of_mem _ wi_5_18) (v := .ref (ad 8)) rfl dX10_makes_83 ?_
      refine lv_iload_n hx hb dX10_makes_86 rfl (lv_at hl 1 rfl) ?_
      refine lv_iload_n hx hb dX10_makes_87 rfl (lv_at hl 3 rfl) ?_
      refine eb_iast (n := 6) X hw 8 (by decide) rfl rfl i0_ dX10_makes_88 (fun H locs hw => ?_)
      refine lv_aload_n hx hb dX10_makes_89 rfl (lv_at hl 0 rfl) ?_
      refine eb_get (T := TX10) X hw 0 22 (by decide) ⟨rfl, rfl, rfl⟩ (by decide) (fun _ h => List.mem_cons_of_mem _ (inlX10 _ h)) (List.mem_cons_of_mem _ wi_5_16) (v := .ref (ad 6)) rfl dX10_makes_90 ?_
      refine lv_iload_n hx hb dX10_makes_93 rfl (lv_at hl 1 rfl) ?_
      refine lv_iconst (v := 1) hx hb dX10_makes_94 (by decide) ?_
      refine eb_iast (n := 6) X hw 6 (by decide) rfl rfl i0_ dX10_makes_95 (fun H locs hw => ?_)
      refine lv_aload_n hx hb dX10_makes_96 rfl (lv_at hl 0 rfl) ?_
      refine eb_get (T := TX10) X hw 0 28 (by decide) ⟨rfl, rfl, rfl⟩ (by decide) (fun _ h => List.mem_cons_of_mem _ (inlX10 _ h)) (List.mem_cons_of_mem _ wi_5_22) (v := .ref (ad 12)) rfl dX10_makes_97 ?_
      refine lv_iload_n hx hb dX10_makes_100 rfl (lv_at hl 1 rfl) ?_
      refine lv_iconst (v := 0) hx hb dX10_makes_101 (by decide) ?_
      refine eb_iast (n := 6) X hw 12 (by decide) rfl rfl i0_ dX10_makes_102 (fun H locs hw => ?_)
      refine lv_aload_n hx hb dX10_makes_103 rfl (lv_at hl 0 rfl) ?_
      refine eb_get (T := TX10) X hw 0 29 (by decide) ⟨rfl, rfl, rfl⟩ (by decide) (fun _ h => List.mem_cons_of_mem _ (inlX10 _ h)) (List.mem_cons_of_mem _ wi_5_23) (v := .ref (ad 13)) rfl dX10_makes_104 ?_
      refine lv_iload_n hx hb dX10_makes_107 rfl (lv_at hl 1 rfl) ?_
      refine lv_iconst (v := 0) hx hb dX10_makes_108 (by decide) ?_
      refine eb_iast (n := 6) X hw 13 (by decide) rfl rfl i0_ dX10_makes_109 (fun H locs hw => ?_)
      refine lv_iconst (v := 0) hx hb dX10_makes_110 (by decide) ?_
      refine lv_istore (lv' := [(6, .int 0), (0, .ref (ad 0)), (1, .int v1), (2, .int v2), (3, .int v3), (5, .int v5)]) hx hb dX10_makes_111 hl (by decide) rfl (fun ls hl => ?_)
      exact k_X10_makes_113 X   33 (eb_pI (eb_pI (eb_pI (eb_pI (eb_pI σ 7 v1.toNatClampNeg v2) 8 v1.toNatClampNeg v3) 6 v1.toNatClampNeg 1) 12 v1.toNatClampNeg 0) 13 v1.toNatClampNeg 0) v1 0 (show rJ (eb_pI (eb_pI (eb_pI σ 7 v1.toNatClampNeg v2) 8 v1.toNatClampNeg v3) 6 v1.toNatClampNeg 1) from rJ_w (show rJ (eb_pI (eb_pI σ 7 v1.toNatClampNeg v2) 8 v1.toNatClampNeg v3) from rJ_bs hj_ i1_) (Or.inr (by rw [eb_rdI]; exact i1_.2.1))) (by decide) i0_ (by decide) hm hw (lv_sub hl [1, 2, 0] rfl)
    · have hm := (if_neg h3).symm.trans hm
      refine lv_aload_n hx hb dX10_makes_42 rfl (lv_at hl 0 rfl) ?_
      refine eb_get (T := TX10) X hw 0 1 (by decide) ⟨rfl, rfl, rfl⟩ (by decide) (fun _ h => List.mem_cons_of_mem _ (inlX10 _ h)) (List.mem_cons_of_mem _ wi_5_8) (v := .ref (ad 1)) rfl dX10_makes_43 ?_
      refine lv_iload_n hx hb dX10_makes_46 rfl (lv_at hl 2 rfl) ?_
      refine lv_iload hx hb dX10_makes_47 (lv_at hl 5 rfl) ?_
      refine lv_iadd hx hb dX10_makes_49 ?_
      refine lv_iload hx hb dX10_makes_50 (lv_at hl 5 rfl) ?_
      refine lv_iload hx hb dX10_makes_52 (lv_at hl 4 rfl) ?_
      refine lv_icmp_ge (tgt := 67) hx hb dX10_makes_54 (by decide) (fun h4 => ?_) (fun h4 => ?_)
      · have hm := (if_pos h4).symm.trans hm
        refine lv_iconst (v := 0) hx hb dX10_makes_67 (by decide) ?_
        refine eb_bast (n := 65536) X hw 1 (by decide) rfl rfl (eb_in_sum i1_.1 i3_ (eb_nle h3) i1_.2.2) dX10_makes_68 (fun H locs hw => ?_)
        obtain ⟨x5, ex5⟩ : ∃ z : Int32, z = v6 + 1 := ⟨_, rfl⟩
        have hm : m_X10_makes_36  n (eb_pI σ 1 ((v2 + v6).toNatClampNeg) (vp_nar .byte 0)) v1 v2 v3 v5 x5 = mm := by rw [ex5]; exact hm
        refine lv_iinc (v := x5) (lv' := [(6, .int x5), (0, .ref (ad 0)), (1, .int v1), (2, .int v2), (3, .int v3), (5, .int v5)]) hx hb dX10_makes_69 hl (k := 5) rfl (by rw [ex5]; exact congrArg (v6 + ·) (by decide)) (by decide) rfl (fun ls hl => ?_)
        refine lv_goto (tgt := 36) hx hb dX10_makes_72 (by decide) ?_
        exact ih (eb_pI σ 1 ((v2 + v6).toNatClampNeg) (vp_nar .byte 0)) v1 v2 v3 v5 x5 hj_ i0_ i1_ i2_ (eb_up i3_ (eb_nle h3) ex5 hn).1 (eb_up1 (eb_nle h3) ex5 hn) hm hw (lv_sub hl [1, 2, 3, 4, 5, 0] rfl)
      · have hm := (if_neg h4).symm.trans hm
        refine lv_aload_n hx hb dX10_makes_57 rfl (lv_at hl 0 rfl) ?_
        refine eb_get (T := TX10) X hw 0 43 (by decide) ⟨rfl, rfl, rfl⟩ (by decide) (fun _ h => List.mem_cons_of_mem _ (inlX10 _ h)) (List.mem_cons_of_mem _ wi_6_3) (v := .ref (ad 17)) rfl dX10_makes_58 ?_
        refine lv_iload hx hb dX10_makes_61 (lv_at hl 5 rfl) ?_
        refine eb_bald (n := 16384) X hw 17 (by decide) rfl rfl (eb_cop i2_.2 i3_ (eb_nle h4)) dX10_makes_63 ?_
        refine lv_goto (tgt := 68) hx hb dX10_makes_64 (by decide) ?_
        refine eb_bast (n := 65536) X hw 1 (by decide) rfl rfl (eb_in_sum i1_.1 i3_ (eb_nle h3) i1_.2.2) dX10_makes_68 (fun H locs hw => ?_)
        obtain ⟨x6, ex6⟩ : ∃ z : Int32, z = v6 + 1 := ⟨_, rfl⟩
        have hm : m_X10_makes_36  n (eb_pI σ 1 ((v2 + v6).toNatClampNeg) (vp_nar .byte (σ.1 17 v6.toNatClampNeg))) v1 v2 v3 v5 x6 = mm := by rw [ex6]; exact hm
        refine lv_iinc (v := x6) (lv' := [(6, .int x6), (0, .ref (ad 0)), (1, .int v1), (2, .int v2), (3, .int v3), (5, .int v5)]) hx hb dX10_makes_69 hl (k := 5) rfl (by rw [ex6]; exact congrArg (v6 + ·) (by decide)) (by decide) rfl (fun ls hl => ?_)
        refine lv_goto (tgt := 36) hx hb dX10_makes_72 (by decide) ?_
        exact ih (eb_pI σ 1 ((v2 + v6).toNatClampNeg) (vp_nar .byte (σ.1 17 v6.toNatClampNeg))) v1 v2 v3 v5 x6 hj_ i0_ i1_ i2_ (eb_up i3_ (eb_nle h3) ex6 hn).1 (eb_up1 (eb_nle h3) ex6 hn) hm hw (lv_sub hl [1, 2, 3, 4, 5, 0] rfl)
set_option maxHeartbeats 4000000 in
set_option maxRecDepth 100000 in
theorem k_X10_makes_3 {p : Program} {l : Launch} {e : Env} {s : State} {m : MethodId} {args : Array Value} {below : List Frame} {meth : Method} {c : Code} {A : Nat → Prop} {D : va_G} {cy : Nat → ClassId} {ad : Nat → Nat} (X : eb_X p s m args meth c cX10_makes 7 RX10 (Cond.code yX10_makes cX10_makes 7 none :: wsL_law) none D cy A)   : ∀ (n : Nat) (σ : eb_St) (v1 : Int32) (v2 : Int32) (v3 : Int32) (v4 : Int32) (v5 : Int32) (v6 : Int32) (hj_ : rJ σ) (i0_ : vp_in v1 6) (i1_ : 0 ≤ v2.toInt ∧ 8 ≤ v3.toInt ∧ v2.toInt + v3.toInt ≤ 65536) (i2_ : 0 ≤ v5.toInt ∧ v5.toInt ≤ 16384) (i3_ : v5.toInt = 0 ∨ (0 ≤ v4.toInt ∧ v4.toInt + v5.toInt ≤ 65536)) (i4_ : 0 ≤ v6.toInt) (hn : (v5.toInt - v6.toInt).toNat < n) {H : Heap} {locs : List Loc} {ls : Array Slot} {mm : eb_St} (_ : (m_X10_makes_3  n σ v1 v2 v3 v4 v5 v6) = mm) (hw : eb_H D 18 cy rL ad A s.heap σ H locs) (hl : lv_has ls 7 [(0, .ref (ad 0)), (1, .int v1), (2, .int v2), (3, .int v3), (4, .int v4), (5, .int v5), (6, .int v6)]), W p l e ({ frames := 0, cells := 0, slots := 0, locals := 0 } : Room) s m args below meth c H locs 0 0 (MQ below (eb_Q D 18 cy rL ad A (none) mm) args s 0 0 A) (F0 m 3 ls []) := by
  have hx := X.1.1
  have hb := X.1.2.1
  have hown := X.1.2.2.2.1
  have hts := X.1.2.2.2.2
  intro n
  induction n with
  | zero => intro σ v1 v2 v3 v4 v5 v6 hj_ i0_ i1_ i2_ i3_ i4_ hn; exact absurd hn (Nat.not_lt_zero _)
  | succ n ih =>
    intro σ v1 v2 v3 v4 v5 v6 hj_ i0_ i1_ i2_ i3_ i4_ hn H locs ls mm hm hw hl
    have hm : (if v5 ≤ v6 then m_X10_makes_36  ((v3.toInt - (0 : Int32).toInt).toNat + 1) σ v1 v2 v3 v5 0 else (fun (x2 : Int32) => m_X10_makes_3  n (eb_pI σ 17 v6.toNatClampNeg (vp_nar .byte (σ.1 1 (v4 + v6).toNatClampNeg))) v1 v2 v3 v4 v5 x2) (v6 + 1)) = mm := hm
    refine lv_iload hx hb dX10_makes_3 (lv_at hl 6 rfl) ?_
    refine lv_iload hx hb dX10_makes_5 (lv_at hl 5 rfl) ?_
    refine lv_icmp_ge (tgt := 33) hx hb dX10_makes_7 (by decide) (fun h1 => ?_) (fun h1 => ?_)
    · have hm := (if_pos h1).symm.trans hm
      refine lv_iconst (v := 0) hx hb dX10_makes_33 (by decide) ?_
      refine lv_istore (lv' := [(6, .int 0), (0, .ref (ad 0)), (1, .int v1), (2, .int v2), (3, .int v3), (4, .int v4), (5, .int v5)]) hx hb dX10_makes_34 hl (by decide) rfl (fun ls hl => ?_)
      exact k_X10_makes_36 X   ((v3.toInt - (0 : Int32).toInt).toNat + 1) σ v1 v2 v3 v5 0 hj_ i0_ i1_ i2_ (by decide) (Nat.lt_succ_self _) hm hw (lv_sub hl [1, 2, 3, 4, 6, 0] rfl)
    · have hm := (if_neg h1).symm.trans hm
      refine lv_aload_n hx hb dX10_makes_10 rfl (lv_at hl 0 rfl) ?_
      refine eb_get (T := TX10) X hw 0 43 (by decide) ⟨rfl, rfl, rfl⟩ (by decide) (fun _ h => List.mem_cons_of_mem _ (inlX10 _ h)) (List.mem_cons_of_mem _ wi_6_3) (v := .ref (ad 17)) rfl dX10_makes_11 ?_
      refine lv_iload hx hb dX10_makes_14 (lv_at hl 6 rfl) ?_
      refine lv_aload_n hx hb dX10_makes_16 rfl (lv_at hl 0 rfl) ?_
      refine eb_get (T := TX10) X hw 0 1 (by decide) ⟨rfl, rfl, rfl⟩ (by decide) (fun _ h => List.mem_cons_of_mem _ (inlX10 _ h)) (List.mem_cons_of_mem _ wi_5_8) (v := .ref (ad 1)) rfl dX10_makes_17 ?_
      refine lv_iload hx hb dX10_makes_20 (lv_at hl 4 rfl) ?_
      refine lv_iload hx hb dX10_makes_22 (lv_at hl 6 rfl) ?_
      refine lv_iadd hx hb dX10_makes_24 ?_
      refine eb_bald (n := 65536) X hw 1 (by decide) rfl rfl (eb_img i3_ i4_ (eb_nle h1)) dX10_makes_25 ?_
      refine eb_bast (n := 16384) X hw 17 (by decide) rfl rfl (eb_cop i2_.2 i4_ (eb_nle h1)) dX10_makes_26 (fun H locs hw => ?_)
      obtain ⟨x2, ex2⟩ : ∃ z : Int32, z = v6 + 1 := ⟨_, rfl⟩
      have hm : m_X10_makes_3  n (eb_pI σ 17 v6.toNatClampNeg (vp_nar .byte (σ.1 1 (v4 + v6).toNatClampNeg))) v1 v2 v3 v4 v5 x2 = mm := by rw [ex2]; exact hm
      refine lv_iinc (v := x2) (lv' := [(6, .int x2), (0, .ref (ad 0)), (1, .int v1), (2, .int v2), (3, .int v3), (4, .int v4), (5, .int v5)]) hx hb dX10_makes_27 hl (k := 6) rfl (by rw [ex2]; exact congrArg (v6 + ·) (by decide)) (by decide) rfl (fun ls hl => ?_)
      refine lv_goto (tgt := 3) hx hb dX10_makes_30 (by decide) ?_
      exact ih (eb_pI σ 17 v6.toNatClampNeg (vp_nar .byte (σ.1 1 (v4 + v6).toNatClampNeg))) v1 v2 v3 v4 v5 x2 hj_ i0_ i1_ i2_ i3_ (eb_up i4_ (eb_nle h1) ex2 hn).1 (eb_up1 (eb_nle h1) ex2 hn) hm hw (lv_sub hl [1, 2, 3, 4, 5, 6, 0] rfl)
set_option maxHeartbeats 4000000 in
set_option maxRecDepth 100000 in
theorem c_X10_makes (l : Launch) (D : va_G) (cy : Nat → ClassId) (ad : Nat → Nat) (σ : eb_St) (a0 : Int32) (a1 : Int32) (a2 : Int32) (a3 : Int32) (a4 : Int32) (hj_ : rJ σ) (h0_ : vp_in a0 6) (h1_ : 0 ≤ a1.toInt ∧ 8 ≤ a2.toInt ∧ a1.toInt + a2.toInt ≤ 65536) (h2_ : 0 ≤ a4.toInt ∧ a4.toInt ≤ 16384) (h3_ : a4.toInt = 0 ∨ (0 ≤ a3.toInt ∧ a3.toInt + a4.toInt ≤ 65536)) : eb_M l yX10_makes (Cond.code yX10_makes cX10_makes 7 none :: wsL_law) 0 0 D 18 cy rL ad σ [.ref (ad 0), .int a0, .int a1, .int a2, .int a3, .int a4] (none) (m_X10_makes σ a0 a1 a2 a3 a4) := by
  refine eb_start (own := RX10) (by decide) rfl rfl (Nat.le_of_ble_eq_true rfl) ?_
  intro p e s m args below meth c A ls X hw hl
  have hl : lv_has ls 7 [(0, .ref (ad 0)), (1, .int a0), (2, .int a1), (3, .int a2), (4, .int a3), (5, .int a4)] := hl
  have hx := X.1.1
  have hb := X.1.2.1
  have hown := X.1.2.2.2.1
  have hts := X.1.2.2.2.2
  generalize hm : m_X10_makes σ a0 a1 a2 a3 a4 = mm
  have hm : m_X10_makes_3  ((a4.toInt - (0 : Int32).toInt).toNat + 1) σ a0 a1 a2 a3 a4 0 = mm := hm
  refine lv_iconst (v := 0) hx hb dX10_makes_0 (by decide) ?_
  refine lv_istore (lv' := [(6, .int 0), (0, .ref (ad 0)), (1, .int a0), (2, .int a1), (3, .int a2), (4, .int a3), (5, .int a4)]) hx hb dX10_makes_1 hl (by decide) rfl (fun ls hl => ?_)
  exact k_X10_makes_3 X   ((a4.toInt - (0 : Int32).toInt).toNat + 1) σ a0 a1 a2 a3 a4 0 hj_ h0_ h1_ h2_ h3_ (by decide) (Nat.lt_succ_self _) hm hw (lv_sub hl [1, 2, 3, 4, 5, 6, 0] rfl)

theorem J_X10_measured_41 : ∀ (n : Nat) (σ : eb_St) (v1 : Int32) (v3 : Int64) (v5 : Int32) {mm : eb_St} (_ : (m_X10_measured_41  n σ v1 v3 v5) = mm) (hj_ : rJ σ) (i0_ : 0 ≤ v5.toInt) (i1_ : vp_in v1 6) (hn : ((24 : Int32).toInt - v5.toInt).toNat < n), rJ mm := by
  intro n
  induction n with
  | zero => intro σ v1 v3 v5 mm hm hj_ i0_ i1_ hn; exact absurd hn (Nat.not_lt_zero _)
  | succ n ih =>
    intro σ v1 v3 v5 mm hm hj_ i0_ i1_ hn
    have hm : (if (24 : Int32) ≤ v5 then (fun (x5 : Int64) => eb_pJ (eb_pJ σ 14 v1.toNatClampNeg v3) 3 v1.toNatClampNeg x5) ((((eb_pJ σ 14 v1.toNatClampNeg v3).1 7 v1.toNatClampNeg).toInt64) + (((eb_pJ σ 14 v1.toNatClampNeg v3).1 9 v1.toNatClampNeg).toInt64)) else (if (8 : Int32) ≤ v5 then (if (16 : Int32) ≤ v5 then (fun (x8 : Int32) => (if (4 : Int32) ≤ (v5 - v5 / 8 * 8) then (fun (x10 : Int64) => (fun (x11 : Int32) => m_X10_measured_41  n σ v1 x10 x11) (v5 + 1)) ((v3 ^^^ ((0 : Int32).toInt64)) * 1099511628211) else (fun (x12 : Int32) => (fun (x13 : Int64) => (fun (x14 : Int32) => m_X10_measured_41  n σ v1 x13 x14) (v5 + 1)) ((v3 ^^^ x12.toInt64) * 1099511628211)) ((x8 >>> ((8 * (v5 - v5 / 8 * 8)) &&& 31)) &&& 255))) (σ.1 11 v1.toNatClampNeg) else (fun (x15 : Int32) => (if (4 : Int32) ≤ (v5 - v5 / 8 * 8) then (fun (x17 : Int64) => (fun (x18 : Int32) => m_X10_measured_41  n σ v1 x17 x18) (v5 + 1)) ((v3 ^^^ ((0 : Int32).toInt64)) * 1099511628211) else (fun (x19 : Int32) => (fun (x20 : Int64) => (fun (x21 : Int32) => m_X10_measured_41  n σ v1 x20 x21) (v5 + 1)) ((v3 ^^^ x19.toInt64) * 1099511628211)) ((x15 >>> ((8 * (v5 - v5 / 8 * 8)) &&& 31)) &&& 255))) (σ.1 9 v1.toNatClampNeg)) else (fun (x22 : Int32) => (if (4 : Int32) ≤ (v5 - v5 / 8 * 8) then (fun (x24 : Int64) => (fun (x25 : Int32) => m_X10_measured_41  n σ v1 x24 x25) (v5 + 1)) ((v3 ^^^ ((0 : Int32).toInt64)) * 1099511628211) else (fun (x26 : Int32) => (fun (x27 : Int64) => (fun (x28 : Int32) => m_X10_measured_41  n σ v1 x27 x28) (v5 + 1)) ((v3 ^^^ x26.toInt64) * 1099511628211)) ((x22 >>> ((8 * (v5 - v5 / 8 * 8)) &&& 31)) &&& 255))) (σ.1 8 v1.toNatClampNeg))) = mm := hm
    refine eb_em (c := (24 : Int32) ≤ v5) (fun h4 => ?_) (fun h4 => ?_)
    · have hm := (if_pos h4).symm.trans hm
      obtain ⟨x5, ex5⟩ : ∃ z : Int64, z = (((eb_pJ σ 14 v1.toNatClampNeg v3).1 7 v1.toNatClampNeg).toInt64) + (((eb_pJ σ 14 v1.toNatClampNeg v3).1 9 v1.toNatClampNeg).toInt64) := ⟨_, rfl⟩
      have hm : eb_pJ (eb_pJ σ 14 v1.toNatClampNeg v3) 3 v1.toNatClampNeg x5 = mm := by rw [ex5]; exact hm
      subst hm
      exact hj_
    · have hm := (if_neg h4).symm.trans hm
      refine eb_em (c := (8 : Int32) ≤ v5) (fun h6 => ?_) (fun h6 => ?_)
      · have hm := (if_pos h6).symm.trans hm
        refine eb_em (c := (16 : Int32) ≤ v5) (fun h7 => ?_) (fun h7 => ?_)
        · have hm := (if_pos h7).symm.trans hm
          obtain ⟨x8, ex8⟩ : ∃ z : Int32, z = σ.1 11 v1.toNatClampNeg := ⟨_, rfl⟩
          have hm : (if (4 : Int32) ≤ (v5 - v5 / 8 * 8) then (fun (x10 : Int64) => (fun (x11 : Int32) => m_X10_measured_41  n σ v1 x10 x11) (v5 + 1)) ((v3 ^^^ ((0 : Int32).toInt64)) * 1099511628211) else (fun (x12 : Int32) => (fun (x13 : Int64) => (fun (x14 : Int32) => m_X10_measured_41  n σ v1 x13 x14) (v5 + 1)) ((v3 ^^^ x12.toInt64) * 1099511628211)) ((x8 >>> ((8 * (v5 - v5 / 8 * 8)) &&& 31)) &&& 255)) = mm := by rw [ex8]; exact hm
          refine eb_em (c := (4 : Int32) ≤ (v5 - v5 / 8 * 8)) (fun h9 => ?_) (fun h9 => ?_)
          · have hm := (if_pos h9).symm.trans hm
            obtain ⟨x10, ex10⟩ : ∃ z : Int64, z = (v3 ^^^ ((0 : Int32).toInt64)) * 1099511628211 := ⟨_, rfl⟩
            have hm : (fun (x11 : Int32) => m_X10_measured_41  n σ v1 x10 x11) (v5 + 1) = mm := by rw [ex10]; exact hm
            obtain ⟨x11, ex11⟩ : ∃ z : Int32, z = v5 + 1 := ⟨_, rfl⟩
            have hm : m_X10_measured_41  n σ v1 x10 x11 = mm := by rw [ex11]; exact hm
            exact ih σ v1 x10 x11 hm hj_ (eb_up i0_ (eb_nle h4) ex11 hn).1 i1_ (eb_up i0_ (eb_nle h4) ex11 hn).2
          · have hm := (if_neg h9).symm.trans hm
            obtain ⟨x12, ex12⟩ : ∃ z : Int32, z = (x8 >>> ((8 * (v5 - v5 / 8 * 8)) &&& 31)) &&& 255 := ⟨_, rfl⟩
            have hm : (fun (x13 : Int64) => (fun (x14 : Int32) => m_X10_measured_41  n σ v1 x13 x14) (v5 + 1)) ((v3 ^^^ x12.toInt64) * 1099511628211) = mm := by rw [ex12]; exact hm
            obtain ⟨x13, ex13⟩ : ∃ z : Int64, z = (v3 ^^^ x12.toInt64) * 1099511628211 := ⟨_, rfl⟩
            have hm : (fun (x14 : Int32) => m_X10_measured_41  n σ v1 x13 x14) (v5 + 1) = mm := by rw [ex13]; exact hm
            obtain ⟨x14, ex14⟩ : ∃ z : Int32, z = v5 + 1 := ⟨_, rfl⟩
            have hm : m_X10_measured_41  n σ v1 x13 x14 = mm := by rw [ex14]; exact hm
            exact ih σ v1 x13 x14 hm hj_ (eb_up i0_ (eb_nle h4) ex14 hn).1 i1_ (eb_up i0_ (eb_nle h4) ex14 hn).2
        · have hm := (if_neg h7).symm.trans hm
          obtain ⟨x15, ex15⟩ : ∃ z : Int32, z = σ.1 9 v1.toNatClampNeg := ⟨_, rfl⟩
          have hm : (if (4 : Int32) ≤ (v5 - v5 / 8 * 8) then (fun (x17 : Int64) => (fun (x18 : Int32) => m_X10_measured_41  n σ v1 x17 x18) (v5 + 1)) ((v3 ^^^ ((0 : Int32).toInt64)) * 1099511628211) else (fun (x19 : Int32) => (fun (x20 : Int64) => (fun (x21 : Int32) => m_X10_measured_41  n σ v1 x20 x21) (v5 + 1)) ((v3 ^^^ x19.toInt64) * 1099511628211)) ((x15 >>> ((8 * (v5 - v5 / 8 * 8)) &&& 31)) &&& 255)) = mm := by rw [ex15]; exact hm
          refine eb_em (c := (4 : Int32) ≤ (v5 - v5 / 8 * 8)) (fun h16 => ?_) (fun h16 => ?_)
          · have hm := (if_pos h16).symm.trans hm
            obtain ⟨x17, ex17⟩ : ∃ z : Int64, z = (v3 ^^^ ((0 : Int32).toInt64)) * 1099511628211 := ⟨_, rfl⟩
            have hm : (fun (x18 : Int32) => m_X10_measured_41  n σ v1 x17 x18) (v5 + 1) = mm := by rw [ex17]; exact hm
            obtain ⟨x18, ex18⟩ : ∃ z : Int32, z = v5 + 1 := ⟨_, rfl⟩
            have hm : m_X10_measured_41  n σ v1 x17 x18 = mm := by rw [ex18]; exact hm
            exact ih σ v1 x17 x18 hm hj_ (eb_up i0_ (eb_nle h4) ex18 hn).1 i1_ (eb_up i0_ (eb_nle h4) ex18 hn).2
          · have hm := (if_neg h16).symm.trans hm
            obtain ⟨x19, ex19⟩ : ∃ z : Int32, z = (x15 >>> ((8 * (v5 - v5 / 8 * 8)) &&& 31)) &&& 255 := ⟨_, rfl⟩
            have hm : (fun (x20 : Int64) => (fun (x21 : Int32) => m_X10_measured_41  n σ v1 x20 x21) (v5 + 1)) ((v3 ^^^ x19.toInt64) * 1099511628211) = mm := by rw [ex19]; exact hm
            obtain ⟨x20, ex20⟩ : ∃ z : Int64, z = (v3 ^^^ x19.toInt64) * 1099511628211 := ⟨_, rfl⟩
            have hm : (fun (x21 : Int32) => m_X10_measured_41  n σ v1 x20 x21) (v5 + 1) = mm := by rw [ex20]; exact hm
            obtain ⟨x21, ex21⟩ : ∃ z : Int32, z = v5 + 1 := ⟨_, rfl⟩
            have hm : m_X10_measured_41  n σ v1 x20 x21 = mm := by rw [ex21]; exact hm
            exact ih σ v1 x20 x21 hm hj_ (eb_up i0_ (eb_nle h4) ex21 hn).1 i1_ (eb_up i0_ (eb_nle h4) ex21 hn).2
      · have hm := (if_neg h6).symm.trans hm
        obtain ⟨x22, ex22⟩ : ∃ z : Int32, z = σ.1 8 v1.toNatClampNeg := ⟨_, rfl⟩
        have hm : (if (4 : Int32) ≤ (v5 - v5 / 8 * 8) then (fun (x24 : Int64) => (fun (x25 : Int32) => m_X10_measured_41  n σ v1 x24 x25) (v5 + 1)) ((v3 ^^^ ((0 : Int32).toInt64)) * 1099511628211) else (fun (x26 : Int32) => (fun (x27 : Int64) => (fun (x28 : Int32) => m_X10_measured_41  n σ v1 x27 x28) (v5 + 1)) ((v3 ^^^ x26.toInt64) * 1099511628211)) ((x22 >>> ((8 * (v5 - v5 / 8 * 8)) &&& 31)) &&& 255)) = mm := by rw [ex22]; exact hm
        refine eb_em (c := (4 : Int32) ≤ (v5 - v5 / 8 * 8)) (fun h23 => ?_) (fun h23 => ?_)
        · have hm := (if_pos h23).symm.trans hm
          obtain ⟨x24, ex24⟩ : ∃ z : Int64, z = (v3 ^^^ ((0 : Int32).toInt64)) * 1099511628211 := ⟨_, rfl⟩
          have hm : (fun (x25 : Int32) => m_X10_measured_41  n σ v1 x24 x25) (v5 + 1) = mm := by rw [ex24]; exact hm
          obtain ⟨x25, ex25⟩ : ∃ z : Int32, z = v5 + 1 := ⟨_, rfl⟩
          have hm : m_X10_measured_41  n σ v1 x24 x25 = mm := by rw [ex25]; exact hm
          exact ih σ v1 x24 x25 hm hj_ (eb_up i0_ (eb_nle h4) ex25 hn).1 i1_ (eb_up i0_ (eb_nle h4) ex25 hn).2
        · have hm := (if_neg h23).symm.trans hm
          obtain ⟨x26, ex26⟩ : ∃ z : Int32, z = (x22 >>> ((8 * (v5 - v5 / 8 * 8)) &&& 31)) &&& 255 := ⟨_, rfl⟩
          have hm : (fun (x27 : Int64) => (fun (x28 : Int32) => m_X10_measured_41  n σ v1 x27 x28) (v5 + 1)) ((v3 ^^^ x26.toInt64) * 1099511628211) = mm := by rw [ex26]; exact hm
          obtain ⟨x27, ex27⟩ : ∃ z : Int64, z = (v3 ^^^ x26.toInt64) * 1099511628211 := ⟨_, rfl⟩
          have hm : (fun (x28 : Int32) => m_X10_measured_41  n σ v1 x27 x28) (v5 + 1) = mm := by rw [ex27]; exact hm
          obtain ⟨x28, ex28⟩ : ∃ z : Int32, z = v5 + 1 := ⟨_, rfl⟩
          have hm : m_X10_measured_41  n σ v1 x27 x28 = mm := by rw [ex28]; exact hm
          exact ih σ v1 x27 x28 hm hj_ (eb_up i0_ (eb_nle h4) ex28 hn).1 i1_ (eb_up i0_ (eb_nle h4) ex28 hn).2
theorem J_X10_measured_7 : ∀ (n : Nat) (σ : eb_St) (v1 : Int32) (v2 : Int32) (v3 : Int64) (v5 : Int32) {mm : eb_St} (_ : (m_X10_measured_7  n σ v1 v2 v3 v5) = mm) (hj_ : rJ σ) (i0_ : vp_in v1 6) (i1_ : v2.toInt ≤ 16384) (i2_ : 0 ≤ v5.toInt) (hn : (v2.toInt - v5.toInt).toNat < n), rJ mm := by
  intro n
  induction n with
  | zero => intro σ v1 v2 v3 v5 mm hm hj_ i0_ i1_ i2_ hn; exact absurd hn (Nat.not_lt_zero _)
  | succ n ih =>
    intro σ v1 v2 v3 v5 mm hm hj_ i0_ i1_ i2_ hn
    have hm : (if v2 ≤ v5 then m_X10_measured_41  25 σ v1 v3 0 else (fun (x2 : Int64) => (fun (x3 : Int32) => m_X10_measured_7  n σ v1 v2 x2 x3) (v5 + 1)) ((v3 ^^^ (((σ.1 17 v5.toNatClampNeg) &&& 255).toInt64)) * 1099511628211)) = mm := hm
    refine eb_em (c := v2 ≤ v5) (fun h1 => ?_) (fun h1 => ?_)
    · have hm := (if_pos h1).symm.trans hm
      exact J_X10_measured_41 25 σ v1 v3 0 hm hj_ (by decide) i0_ (by decide)
    · have hm := (if_neg h1).symm.trans hm
      obtain ⟨x2, ex2⟩ : ∃ z : Int64, z = (v3 ^^^ (((σ.1 17 v5.toNatClampNeg) &&& 255).toInt64)) * 1099511628211 := ⟨_, rfl⟩
      have hm : (fun (x3 : Int32) => m_X10_measured_7  n σ v1 v2 x2 x3) (v5 + 1) = mm := by rw [ex2]; exact hm
      obtain ⟨x3, ex3⟩ : ∃ z : Int32, z = v5 + 1 := ⟨_, rfl⟩
      have hm : m_X10_measured_7  n σ v1 v2 x2 x3 = mm := by rw [ex3]; exact hm
      exact ih σ v1 v2 x2 x3 hm hj_ i0_ i1_ (eb_up i2_ (eb_nle h1) ex3 hn).1 (eb_up1 (eb_nle h1) ex3 hn)
theorem J_X10_measured {σ : eb_St} {a0 : Int32} {a1 : Int32} {mm : eb_St} (hm : m_X10_measured σ a0 a1 = mm) (hj_ : rJ σ) (h0_ : vp_in a0 6) (h1_ : a1.toInt ≤ 16384) : rJ mm := by
  have hm : m_X10_measured_7  ((a1.toInt - (0 : Int32).toInt).toNat + 1) σ a0 a1 (-3750763034362895579) 0 = mm := hm
  exact J_X10_measured_7 ((a1.toInt - (0 : Int32).toInt).toNat + 1) σ a0 a1 (-3750763034362895579) 0 hm hj_ h0_ h1_ (by decide) (Nat.lt_succ_self _)
set_option maxHeartbeats 4000000 in
set_option maxRecDepth 100000 in
theorem k_X10_measured_41 {p : Program} {l : Launch} {e : Env} {s : State} {m : MethodId} {args : Array Value} {below : List Frame} {meth : Method} {c : Code} {A : Nat → Prop} {D : va_G} {cy : Nat → ClassId} {ad : Nat → Nat} (X : eb_X p s m args meth c cX10_measured 8 RX10 (Cond.code yX10_measured cX10_measured 8 none :: wsL_law) none D cy A)   : ∀ (n : Nat) (σ : eb_St) (v1 : Int32) (v3 : Int64) (v5 : Int32) (hj_ : rJ σ) (i0_ : 0 ≤ v5.toInt) (i1_ : vp_in v1 6) (hn : ((24 : Int32).toInt - v5.toInt).toNat < n) {H : Heap} {locs : List Loc} {ls : Array Slot} {mm : eb_St} (_ : (m_X10_measured_41  n σ v1 v3 v5) = mm) (hw : eb_H D 18 cy rL ad A s.heap σ H locs) (hl : lv_has ls 8 [(0, .ref (ad 0)), (1, .int v1), (3, .long v3), (5, .int v5)]), W p l e ({ frames := 0, cells := 0, slots := 0, locals := 0 } : Room) s m args below meth c H locs 0 0 (MQ below (eb_Q D 18 cy rL ad A (none) mm) args s 0 0 A) (F0 m 41 ls []) := by
  have hx := X.1.1
  have hb := X.1.2.1
  have hown := X.1.2.2.2.1
  have hts := X.1.2.2.2.2
  intro n
  induction n with
  | zero => intro σ v1 v3 v5 hj_ i0_ i1_ hn; exact absurd hn (Nat.not_lt_zero _)
  | succ n ih =>
    intro σ v1 v3 v5 hj_ i0_ i1_ hn H locs ls mm hm hw hl
    have hm : (if (24 : Int32) ≤ v5 then (fun (x5 : Int64) => eb_pJ (eb_pJ σ 14 v1.toNatClampNeg v3) 3 v1.toNatClampNeg x5) ((((eb_pJ σ 14 v1.toNatClampNeg v3).1 7 v1.toNatClampNeg).toInt64) + (((eb_pJ σ 14 v1.toNatClampNeg v3).1 9 v1.toNatClampNeg).toInt64)) else (if (8 : Int32) ≤ v5 then (if (16 : Int32) ≤ v5 then (fun (x8 : Int32) => (if (4 : Int32) ≤ (v5 - v5 / 8 * 8) then (fun (x10 : Int64) => (fun (x11 : Int32) => m_X10_measured_41  n σ v1 x10 x11) (v5 + 1)) ((v3 ^^^ ((0 : Int32).toInt64)) * 1099511628211) else (fun (x12 : Int32) => (fun (x13 : Int64) => (fun (x14 : Int32) => m_X10_measured_41  n σ v1 x13 x14) (v5 + 1)) ((v3 ^^^ x12.toInt64) * 1099511628211)) ((x8 >>> ((8 * (v5 - v5 / 8 * 8)) &&& 31)) &&& 255))) (σ.1 11 v1.toNatClampNeg) else (fun (x15 : Int32) => (if (4 : Int32) ≤ (v5 - v5 / 8 * 8) then (fun (x17 : Int64) => (fun (x18 : Int32) => m_X10_measured_41  n σ v1 x17 x18) (v5 + 1)) ((v3 ^^^ ((0 : Int32).toInt64)) * 1099511628211) else (fun (x19 : Int32) => (fun (x20 : Int64) => (fun (x21 : Int32) => m_X10_measured_41  n σ v1 x20 x21) (v5 + 1)) ((v3 ^^^ x19.toInt64) * 1099511628211)) ((x15 >>> ((8 * (v5 - v5 / 8 * 8)) &&& 31)) &&& 255))) (σ.1 9 v1.toNatClampNeg)) else (fun (x22 : Int32) => (if (4 : Int32) ≤ (v5 - v5 / 8 * 8) then (fun (x24 : Int64) => (fun (x25 : Int32) => m_X10_measured_41  n σ v1 x24 x25) (v5 + 1)) ((v3 ^^^ ((0 : Int32).toInt64)) * 1099511628211) else (fun (x26 : Int32) => (fun (x27 : Int64) => (fun (x28 : Int32) => m_X10_measured_41  n σ v1 x27 x28) (v5 + 1)) ((v3 ^^^ x26.toInt64) * 1099511628211)) ((x22 >>> ((8 * (v5 - v5 / 8 * 8)) &&& 31)) &&& 255))) (σ.1 8 v1.toNatClampNeg))) = mm := hm
    refine lv_iload hx hb dX10_measured_41 (lv_at hl 3 rfl) ?_
    refine lv_bipush (v := 24) hx hb dX10_measured_43 (by decide) ?_
    refine lv_icmp_ge (tgt := 134) hx hb dX10_measured_45 (by decide) (fun h4 => ?_) (fun h4 => ?_)
    · have hm := (if_pos h4).symm.trans hm
      refine lv_aload_n hx hb dX10_measured_134 rfl (lv_at hl 0 rfl) ?_
      refine eb_get (T := TX10) X hw 0 30 (by decide) ⟨rfl, rfl, rfl⟩ (by decide) (fun _ h => List.mem_cons_of_mem _ (inlX10 _ h)) (List.mem_cons_of_mem _ wi_6_0) (v := .ref (ad 14)) rfl dX10_measured_135 ?_
      refine lv_iload_n hx hb dX10_measured_138 rfl (lv_at hl 1 rfl) ?_
      refine lv_lload_n hx hb dX10_measured_139 rfl (lv_at hl 2 rfl) ?_
      refine eb_last (n := 6) X hw 14 (by decide) rfl rfl i1_ dX10_measured_140 (fun H locs hw => ?_)
      refine lv_aload_n hx hb dX10_measured_141 rfl (lv_at hl 0 rfl) ?_
      refine eb_get (T := TX10) X hw 0 3 (by decide) ⟨rfl, rfl, rfl⟩ (by decide) (fun _ h => List.mem_cons_of_mem _ (inlX10 _ h)) (List.mem_cons_of_mem _ wi_5_10) (v := .ref (ad 3)) rfl dX10_measured_142 ?_
      refine lv_iload_n hx hb dX10_measured_145 rfl (lv_at hl 1 rfl) ?_
      refine lv_aload_n hx hb dX10_measured_146 rfl (lv_at hl 0 rfl) ?_
      refine eb_get (T := TX10) X hw 0 23 (by decide) ⟨rfl, rfl, rfl⟩ (by decide) (fun _ h => List.mem_cons_of_mem _ (inlX10 _ h)) (List.mem_cons_of_mem _ wi_5_17) (v := .ref (ad 7)) rfl dX10_measured_147 ?_
      refine lv_iload_n hx hb dX10_measured_150 rfl (lv_at hl 1 rfl) ?_
      refine eb_iald (n := 6) X hw 7 (by decide) rfl rfl i1_ dX10_measured_151 ?_
      refine lv_i2l (v := ((eb_pJ σ 14 v1.toNatClampNeg v3).1 7 v1.toNatClampNeg).toInt64) hx hb dX10_measured_152 rfl ?_
      refine lv_aload_n hx hb dX10_measured_153 rfl (lv_at hl 0 rfl) ?_
      refine eb_get (T := TX10) X hw 0 25 (by decide) ⟨rfl, rfl, rfl⟩ (by decide) (fun _ h => List.mem_cons_of_mem _ (inlX10 _ h)) (List.mem_cons_of_mem _ wi_5_19) (v := .ref (ad 9)) rfl dX10_measured_154 ?_
      refine lv_iload_n hx hb dX10_measured_157 rfl (lv_at hl 1 rfl) ?_
      refine eb_iald (n := 6) X hw 9 (by decide) rfl rfl i1_ dX10_measured_158 ?_
      refine lv_i2l (v := ((eb_pJ σ 14 v1.toNatClampNeg v3).1 9 v1.toNatClampNeg).toInt64) hx hb dX10_measured_159 rfl ?_
      refine lv_ladd hx hb dX10_measured_160 ?_
      refine lv_topl (fun x5 ex5 => ?_)
      have hm : eb_pJ (eb_pJ σ 14 v1.toNatClampNeg v3) 3 v1.toNatClampNeg x5 = mm := by rw [ex5]; exact hm
      refine eb_last (n := 7) X hw 3 (by decide) rfl rfl (eb_wid i1_ (by decide)) dX10_measured_161 (fun H locs hw => ?_)
      subst hm
      exact eb_vret X hw rfl rfl dX10_measured_162
    · have hm := (if_neg h4).symm.trans hm
      refine lv_iload hx hb dX10_measured_48 (lv_at hl 3 rfl) ?_
      refine lv_bipush (v := 8) hx hb dX10_measured_50 (by decide) ?_
      refine lv_icmp_ge (tgt := 64) hx hb dX10_measured_52 (by decide) (fun h6 => ?_) (fun h6 => ?_)
      · have hm := (if_pos h6).symm.trans hm
        refine lv_iload hx hb dX10_measured_64 (lv_at hl 3 rfl) ?_
        refine lv_bipush (v := 16) hx hb dX10_measured_66 (by decide) ?_
        refine lv_icmp_ge (tgt := 80) hx hb dX10_measured_68 (by decide) (fun h7 => ?_) (fun h7 => ?_)
        · have hm := (if_pos h7).symm.trans hm
          refine lv_aload_n hx hb dX10_measured_80 rfl (lv_at hl 0 rfl) ?_
          refine eb_get (T := TX10) X hw 0 27 (by decide) ⟨rfl, rfl, rfl⟩ (by decide) (fun _ h => List.mem_cons_of_mem _ (inlX10 _ h)) (List.mem_cons_of_mem _ wi_5_21) (v := .ref (ad 11)) rfl dX10_measured_81 ?_
          refine lv_iload_n hx hb dX10_measured_84 rfl (lv_at hl 1 rfl) ?_
          refine eb_iald (n := 6) X hw 11 (by decide) rfl rfl i1_ dX10_measured_85 ?_
          refine lv_topi (fun x8 ex8 => ?_)
          have hm : (if (4 : Int32) ≤ (v5 - v5 / 8 * 8) then (fun (x10 : Int64) => (fun (x11 : Int32) => m_X10_measured_41  n σ v1 x10 x11) (v5 + 1)) ((v3 ^^^ ((0 : Int32).toInt64)) * 1099511628211) else (fun (x12 : Int32) => (fun (x13 : Int64) => (fun (x14 : Int32) => m_X10_measured_41  n σ v1 x13 x14) (v5 + 1)) ((v3 ^^^ x12.toInt64) * 1099511628211)) ((x8 >>> ((8 * (v5 - v5 / 8 * 8)) &&& 31)) &&& 255)) = mm := by rw [ex8]; exact hm
          refine lv_istore (lv' := [(6, .int x8), (0, .ref (ad 0)), (1, .int v1), (3, .long v3), (5, .int v5)]) hx hb dX10_measured_86 hl (by decide) rfl (fun ls hl => ?_)
          refine lv_iload hx hb dX10_measured_88 (lv_at hl 4 rfl) ?_
          refine lv_bipush (v := 8) hx hb dX10_measured_90 (by decide) ?_
          refine lv_irem hx hb dX10_measured_92 (by decide) ?_
          refine lv_iconst (v := 4) hx hb dX10_measured_93 (by decide) ?_
          refine lv_icmp_ge (tgt := 115) hx hb dX10_measured_94 (by decide) (fun h9 => ?_) (fun h9 => ?_)
          · have hm := (if_pos h9).symm.trans hm
            refine lv_iconst (v := 0) hx hb dX10_measured_115 (by decide) ?_
            refine lv_istore (lv' := [(7, .int 0), (6, .int x8), (0, .ref (ad 0)), (1, .int v1), (3, .long v3), (5, .int v5)]) hx hb dX10_measured_116 hl (by decide) rfl (fun ls hl => ?_)
            refine lv_lload_n hx hb dX10_measured_118 rfl (lv_at hl 4 rfl) ?_
            refine lv_iload hx hb dX10_measured_119 (lv_at hl 0 rfl) ?_
            refine lv_i2l (v := (0 : Int32).toInt64) hx hb dX10_measured_121 rfl ?_
            refine lv_lxor hx hb dX10_measured_122 ?_
            refine lv_ldc2 hx hb hown (hts _ (List.mem_cons_of_mem _ wi_38_10)) dX10_measured_123 ?_
            refine lv_lmul hx hb dX10_measured_126 ?_
            refine lv_topl (fun x10 ex10 => ?_)
            have hm : (fun (x11 : Int32) => m_X10_measured_41  n σ v1 x10 x11) (v5 + 1) = mm := by rw [ex10]; exact hm
            refine lv_lstore_n (lv' := [(3, .long x10), (7, .int 0), (6, .int x8), (0, .ref (ad 0)), (1, .int v1), (5, .int v5)]) hx hb dX10_measured_127 rfl hl (by decide) rfl (fun ls hl => ?_)
            obtain ⟨x11, ex11⟩ : ∃ z : Int32, z = v5 + 1 := ⟨_, rfl⟩
            have hm : m_X10_measured_41  n σ v1 x10 x11 = mm := by rw [ex11]; exact hm
            refine lv_iinc (v := x11) (lv' := [(5, .int x11), (3, .long x10), (7, .int 0), (6, .int x8), (0, .ref (ad 0)), (1, .int v1)]) hx hb dX10_measured_128 hl (k := 5) rfl (by rw [ex11]; exact congrArg (v5 + ·) (by decide)) (by decide) rfl (fun ls hl => ?_)
            refine lv_goto (tgt := 41) hx hb dX10_measured_131 (by decide) ?_
            exact ih σ v1 x10 x11 hj_ (eb_up i0_ (eb_nle h4) ex11 hn).1 i1_ (eb_up i0_ (eb_nle h4) ex11 hn).2 hm hw (lv_sub hl [4, 5, 1, 0] rfl)
          · have hm := (if_neg h9).symm.trans hm
            refine lv_iload hx hb dX10_measured_97 (lv_at hl 0 rfl) ?_
            refine lv_bipush (v := 8) hx hb dX10_measured_99 (by decide) ?_
            refine lv_iload hx hb dX10_measured_101 (lv_at hl 4 rfl) ?_
            refine lv_bipush (v := 8) hx hb dX10_measured_103 (by decide) ?_
            refine lv_irem hx hb dX10_measured_105 (by decide) ?_
            refine lv_imul hx hb dX10_measured_106 ?_
            refine lv_ishr hx hb dX10_measured_107 ?_
            refine lv_sipush (v := 255) hx hb dX10_measured_108 (by decide) ?_
            refine lv_iand hx hb dX10_measured_111 ?_
            refine lv_goto (tgt := 116) hx hb dX10_measured_112 (by decide) ?_
            refine lv_topi (fun x12 ex12 => ?_)
            have hm : (fun (x13 : Int64) => (fun (x14 : Int32) => m_X10_measured_41  n σ v1 x13 x14) (v5 + 1)) ((v3 ^^^ x12.toInt64) * 1099511628211) = mm := by rw [ex12]; exact hm
            refine lv_istore (lv' := [(7, .int x12), (6, .int x8), (0, .ref (ad 0)), (1, .int v1), (3, .long v3), (5, .int v5)]) hx hb dX10_measured_116 hl (by decide) rfl (fun ls hl => ?_)
            refine lv_lload_n hx hb dX10_measured_118 rfl (lv_at hl 4 rfl) ?_
            refine lv_iload hx hb dX10_measured_119 (lv_at hl 0 rfl) ?_
            refine lv_i2l (v := x12.toInt64) hx hb dX10_measured_121 rfl ?_
            refine lv_lxor hx hb dX10_measured_122 ?_
            refine lv_ldc2 hx hb hown (hts _ (List.mem_cons_of_mem _ wi_38_10)) dX10_measured_123 ?_
            refine lv_lmul hx hb dX10_measured_126 ?_
            refine lv_topl (fun x13 ex13 => ?_)
            have hm : (fun (x14 : Int32) => m_X10_measured_41  n σ v1 x13 x14) (v5 + 1) = mm := by rw [ex13]; exact hm
            refine lv_lstore_n (lv' := [(3, .long x13), (7, .int x12), (6, .int x8), (0, .ref (ad 0)), (1, .int v1), (5, .int v5)]) hx hb dX10_measured_127 rfl hl (by decide) rfl (fun ls hl => ?_)
            obtain ⟨x14, ex14⟩ : ∃ z : Int32, z = v5 + 1 := ⟨_, rfl⟩
            have hm : m_X10_measured_41  n σ v1 x13 x14 = mm := by rw [ex14]; exact hm
            refine lv_iinc (v := x14) (lv' := [(5, .int x14), (3, .long x13), (7, .int x12), (6, .int x8), (0, .ref (ad 0)), (1, .int v1)]) hx hb dX10_measured_128 hl (k := 5) rfl (by rw [ex14]; exact congrArg (v5 + ·) (by decide)) (by decide) rfl (fun ls hl => ?_)
            refine lv_goto (tgt := 41) hx hb dX10_measured_131 (by decide) ?_
            exact ih σ v1 x13 x14 hj_ (eb_up i0_ (eb_nle h4) ex14 hn).1 i1_ (eb_up i0_ (eb_nle h4) ex14 hn).2 hm hw (lv_sub hl [4, 5, 1, 0] rfl)
        · have hm := (if_neg h7).symm.trans hm
          refine lv_aload_n hx hb dX10_measured_71 rfl (lv_at hl 0 rfl) ?_
          refine eb_get (T := TX10) X hw 0 25 (by decide) ⟨rfl, rfl, rfl⟩ (by decide) (fun _ h => List.mem_cons_of_mem _ (inlX10 _ h)) (List.mem_cons_of_mem _ wi_5_19) (v := .ref (ad 9)) rfl dX10_measured_72 ?_
          refine lv_iload_n hx hb dX10_measured_75 rfl (lv_at hl 1 rfl) ?_
          refine eb_iald (n := 6) X hw 9 (by decide) rfl rfl i1_ dX10_measured_76 ?_
          refine lv_goto (tgt := 86) hx hb dX10_measured_77 (by decide) ?_
          refine lv_topi (fun x15 ex15 => ?_)
          have hm : (if (4 : Int32) ≤ (v5 - v5 / 8 * 8) then (fun (x17 : Int64) => (fun (x18 : Int32) => m_X10_measured_41  n σ v1 x17 x18) (v5 + 1)) ((v3 ^^^ ((0 : Int32).toInt64)) * 1099511628211) else (fun (x19 : Int32) => (fun (x20 : Int64) => (fun (x21 : Int32) => m_X10_measured_41  n σ v1 x20 x21) (v5 + 1)) ((v3 ^^^ x19.toInt64) * 1099511628211)) ((x15 >>> ((8 * (v5 - v5 / 8 * 8)) &&& 31)) &&& 255)) = mm := by rw [ex15]; exact hm
          refine lv_istore (lv' := [(6, .int x15), (0, .ref (ad 0)), (1, .int v1), (3, .long v3), (5, .int v5)]) hx hb dX10_measured_86 hl (by decide) rfl (fun ls hl => ?_)
          refine lv_iload hx hb dX10_measured_88 (lv_at hl 4 rfl) ?_
          refine lv_bipush (v := 8) hx hb dX10_measured_90 (by decide) ?_
          refine lv_irem hx hb dX10_measured_92 (by decide) ?_
          refine lv_iconst (v := 4) hx hb dX10_measured_93 (by decide) ?_
          refine lv_icmp_ge (tgt := 115) hx hb dX10_measured_94 (by decide) (fun h16 => ?_) (fun h16 => ?_)
          · have hm := (if_pos h16).symm.trans hm
            refine lv_iconst (v := 0) hx hb dX10_measured_115 (by decide) ?_
            refine lv_istore (lv' := [(7, .int 0), (6, .int x15), (0, .ref (ad 0)), (1, .int v1), (3, .long v3), (5, .int v5)]) hx hb dX10_measured_116 hl (by decide) rfl (fun ls hl => ?_)
            refine lv_lload_n hx hb dX10_measured_118 rfl (lv_at hl 4 rfl) ?_
            refine lv_iload hx hb dX10_measured_119 (lv_at hl 0 rfl) ?_
            refine lv_i2l (v := (0 : Int32).toInt64) hx hb dX10_measured_121 rfl ?_
            refine lv_lxor hx hb dX10_measured_122 ?_
            refine lv_ldc2 hx hb hown (hts _ (List.mem_cons_of_mem _ wi_38_10)) dX10_measured_123 ?_
            refine lv_lmul hx hb dX10_measured_126 ?_
            refine lv_topl (fun x17 ex17 => ?_)
            have hm : (fun (x18 : Int32) => m_X10_measured_41  n σ v1 x17 x18) (v5 + 1) = mm := by rw [ex17]; exact hm
            refine lv_lstore_n (lv' := [(3, .long x17), (7, .int 0), (6, .int x15), (0, .ref (ad 0)), (1, .int v1), (5, .int v5)]) hx hb dX10_measured_127 rfl hl (by decide) rfl (fun ls hl => ?_)
            obtain ⟨x18, ex18⟩ : ∃ z : Int32, z = v5 + 1 := ⟨_, rfl⟩
            have hm : m_X10_measured_41  n σ v1 x17 x18 = mm := by rw [ex18]; exact hm
            refine lv_iinc (v := x18) (lv' := [(5, .int x18), (3, .long x17), (7, .int 0), (6, .int x15), (0, .ref (ad 0)), (1, .int v1)]) hx hb dX10_measured_128 hl (k := 5) rfl (by rw [ex18]; exact congrArg (v5 + ·) (by decide)) (by decide) rfl (fun ls hl => ?_)
            refine lv_goto (tgt := 41) hx hb dX10_measured_131 (by decide) ?_
            exact ih σ v1 x17 x18 hj_ (eb_up i0_ (eb_nle h4) ex18 hn).1 i1_ (eb_up i0_ (eb_nle h4) ex18 hn).2 hm hw (lv_sub hl [4, 5, 1, 0] rfl)
          · have hm := (if_neg h16).symm.trans hm
            refine lv_iload hx hb dX10_measured_97 (lv_at hl 0 rfl) ?_
            refine lv_bipush (v := 8) hx hb dX10_measured_99 (by decide) ?_
            refine lv_iload hx hb dX10_measured_101 (lv_at hl 4 rfl) ?_
            refine lv_bipush (v := 8) hx hb dX10_measured_103 (by decide) ?_
            refine lv_irem hx hb dX10_measured_105 (by decide) ?_
            refine lv_imul hx hb dX10_measured_106 ?_
            refine lv_ishr hx hb dX10_measured_107 ?_
            refine lv_sipush (v := 255) hx hb dX10_measured_108 (by decide) ?_
            refine lv_iand hx hb dX10_measured_111 ?_
            refine lv_goto (tgt := 116) hx hb dX10_measured_112 (by decide) ?_
            refine lv_topi (fun x19 ex19 => ?_)
            have hm : (fun (x20 : Int64) => (fun (x21 : Int32) => m_X10_measured_41  n σ v1 x20 x21) (v5 + 1)) ((v3 ^^^ x19.toInt64) * 1099511628211) = mm := by rw [ex19]; exact hm
            refine lv_istore (lv' := [(7, .int x19), (6, .int x15), (0, .ref (ad 0)), (1, .int v1), (3, .long v3), (5, .int v5)]) hx hb dX10_measured_116 hl (by decide) rfl (fun ls hl => ?_)
            refine lv_lload_n hx hb dX10_measured_118 rfl (lv_at hl 4 rfl) ?_
            refine lv_iload hx hb dX10_measured_119 (lv_at hl 0 rfl) ?_
            refine lv_i2l (v := x19.toInt64) hx hb dX10_measured_121 rfl ?_
            refine lv_lxor hx hb dX10_measured_122 ?_
            refine lv_ldc2 hx hb hown (hts _ (List.mem_cons_of_mem _ wi_38_10)) dX10_measured_123 ?_
            refine lv_lmul hx hb dX10_measured_126 ?_
            refine lv_topl (fun x20 ex20 => ?_)
            have hm : (fun (x21 : Int32) => m_X10_measured_41  n σ v1 x20 x21) (v5 + 1) = mm := by rw [ex20]; exact hm
            refine lv_lstore_n (lv' := [(3, .long x20), (7, .int x19), (6, .int x15), (0, .ref (ad 0)), (1, .int v1), (5, .int v5)]) hx hb dX10_measured_127 rfl hl (by decide) rfl (fun ls hl => ?_)
            obtain ⟨x21, ex21⟩ : ∃ z : Int32, z = v5 + 1 := ⟨_, rfl⟩
            have hm : m_X10_measured_41  n σ v1 x20 x21 = mm := by rw [ex21]; exact hm
            refine lv_iinc (v := x21) (lv' := [(5, .int x21), (3, .long x20), (7, .int x19), (6, .int x15), (0, .ref (ad 0)), (1, .int v1)]) hx hb dX10_measured_128 hl (k := 5) rfl (by rw [ex21]; exact congrArg (v5 + ·) (by decide)) (by decide) rfl (fun ls hl => ?_)
            refine lv_goto (tgt := 41) hx hb dX10_measured_131 (by decide) ?_
            exact ih σ v1 x20 x21 hj_ (eb_up i0_ (eb_nle h4) ex21 hn).1 i1_ (eb_up i0_ (eb_nle h4) ex21 hn).2 hm hw (lv_sub hl [4, 5, 1, 0] rfl)
      · have hm := (if_neg h6).symm.trans hm
        refine lv_aload_n hx hb dX10_measured_55 rfl (lv_at hl 0 rfl) ?_
        refine eb_get (T := TX10) X hw 0 24 (by decide) ⟨rfl, rfl, rfl⟩ (by decide) (fun _ h => List.mem_cons_of_mem _ (inlX10 _ h)) (List.mem_cons_of_mem _ wi_5_18) (v := .ref (ad 8)) rfl dX10_measured_56 ?_
        refine lv_iload_n hx hb dX10_measured_59 rfl (lv_at hl 1 rfl) ?_
        refine eb_iald (n := 6) X hw 8 (by decide) rfl rfl i1_ dX10_measured_60 ?_
        refine lv_goto (tgt := 86) hx hb dX10_measured_61 (by decide) ?_
        refine lv_topi (fun x22 ex22 => ?_)
        have hm : (if (4 : Int32) ≤ (v5 - v5 / 8 * 8) then (fun (x24 : Int64) => (fun (x25 : Int32) => m_X10_measured_41  n σ v1 x24 x25) (v5 + 1)) ((v3 ^^^ ((0 : Int32).toInt64)) * 1099511628211) else (fun (x26 : Int32) => (fun (x27 : Int64) => (fun (x28 : Int32) => m_X10_measured_41  n σ v1 x27 x28) (v5 + 1)) ((v3 ^^^ x26.toInt64) * 1099511628211)) ((x22 >>> ((8 * (v5 - v5 / 8 * 8)) &&& 31)) &&& 255)) = mm := by rw [ex22]; exact hm
        refine lv_istore (lv' := [(6, .int x22), (0, .ref (ad 0)), (1, .int v1), (3, .long v3), (5, .int v5)]) hx hb dX10_measured_86 hl (by decide) rfl (fun ls hl => ?_)
        refine lv_iload hx hb dX10_measured_88 (lv_at hl 4 rfl) ?_
        refine lv_bipush (v := 8) hx hb dX10_measured_90 (by decide) ?_
        refine lv_irem hx hb dX10_measured_92 (by decide) ?_
        refine lv_iconst (v := 4) hx hb dX10_measured_93 (by decide) ?_
        refine lv_icmp_ge (tgt := 115) hx hb dX10_measured_94 (by decide) (fun h23 => ?_) (fun h23 => ?_)
        · have hm := (if_pos h23).symm.trans hm
          refine lv_iconst (v := 0) hx hb dX10_measured_115 (by decide) ?_
          refine lv_istore (lv' := [(7, .int 0), (6, .int x22), (0, .ref (ad 0)), (1, .int v1), (3, .long v3), (5, .int v5)]) hx hb dX10_measured_116 hl (by decide) rfl (fun ls hl => ?_)
          refine lv_lload_n hx hb dX10_measured_118 rfl (lv_at hl 4 rfl) ?_
          refine lv_iload hx hb dX10_measured_119 (lv_at hl 0 rfl) ?_
          refine lv_i2l (v := (0 : Int32).toInt64) hx hb dX10_measured_121 rfl ?_
          refine lv_lxor hx hb dX10_measured_122 ?_
          refine lv_ldc2 hx hb hown (hts _ (List.mem_cons_of_mem _ wi_38_10)) dX10_measured_123 ?_
          refine lv_lmul hx hb dX10_measured_126 ?_
          refine lv_topl (fun x24 ex24 => ?_)
          have hm : (fun (x25 : Int32) => m_X10_measured_41  n σ v1 x24 x25) (v5 + 1) = mm := by rw [ex24]; exact hm
          refine lv_lstore_n (lv' := [(3, .long x24), (7, .int 0), (6, .int x22), (0, .ref (ad 0)), (1, .int v1), (5, .int v5)]) hx hb dX10_measured_127 rfl hl (by decide) rfl (fun ls hl => ?_)
          obtain ⟨x25, ex25⟩ : ∃ z : Int32, z = v5 + 1 := ⟨_, rfl⟩
          have hm : m_X10_measured_41  n σ v1 x24 x25 = mm := by rw [ex25]; exact hm
          refine lv_iinc (v := x25) (lv' := [(5, .int x25), (3, .long x24), (7, .int 0), (6, .int x22), (0, .ref (ad 0)), (1, .int v1)]) hx hb dX10_measured_128 hl (k := 5) rfl (by rw [ex25]; exact congrArg (v5 + ·) (by decide)) (by decide) rfl (fun ls hl => ?_)
          refine lv_goto (tgt := 41) hx hb dX10_measured_131 (by decide) ?_
          exact ih σ v1 x24 x25 hj_ (eb_up i0_ (eb_nle h4) ex25 hn).1 i1_ (eb_up i0_ (eb_nle h4) ex25 hn).2 hm hw (lv_sub hl [4, 5, 1, 0] rfl)
        · have hm := (if_neg h23).symm.trans hm
          refine lv_iload hx hb dX10_measured_97 (lv_at hl 0 rfl) ?_
          refine lv_bipush (v := 8) hx hb dX10_measured_99 (by decide) ?_
          refine lv_iload hx hb dX10_measured_101 (lv_at hl 4 rfl) ?_
          refine lv_bipush (v := 8) hx hb dX10_measured_103 (by decide) ?_
          refine lv_irem hx hb dX10_measured_105 (by decide) ?_
          refine lv_imul hx hb dX10_measured_106 ?_
          refine lv_ishr hx hb dX10_measured_107 ?_
          refine lv_sipush (v := 255) hx hb dX10_measured_108 (by decide) ?_
          refine lv_iand hx hb dX10_measured_111 ?_
          refine lv_goto (tgt := 116) hx hb dX10_measured_112 (by decide) ?_
          refine lv_topi (fun x26 ex26 => ?_)
          have hm : (fun (x27 : Int64) => (fun (x28 : Int32) => m_X10_measured_41  n σ v1 x27 x28) (v5 + 1)) ((v3 ^^^ x26.toInt64) * 1099511628211) = mm := by rw [ex26]; exact hm
          refine lv_istore (lv' := [(7, .int x26), (6, .int x22), (0, .ref (ad 0)), (1, .int v1), (3, .long v3), (5, .int v5)]) hx hb dX10_measured_116 hl (by decide) rfl (fun ls hl => ?_)
          refine lv_lload_n hx hb dX10_measured_118 rfl (lv_at hl 4 rfl) ?_
          refine lv_iload hx hb dX10_measured_119 (lv_at hl 0 rfl) ?_
          refine lv_i2l (v := x26.toInt64) hx hb dX10_measured_121 rfl ?_
          refine lv_lxor hx hb dX10_measured_122 ?_
          refine lv_ldc2 hx hb hown (hts _ (List.mem_cons_of_mem _ wi_38_10)) dX10_measured_123 ?_
          refine lv_lmul hx hb dX10_measured_126 ?_
          refine lv_topl (fun x27 ex27 => ?_)
          have hm : (fun (x28 : Int32) => m_X10_measured_41  n σ v1 x27 x28) (v5 + 1) = mm := by rw [ex27]; exact hm
          refine lv_lstore_n (lv' := [(3, .long x27), (7, .int x26), (6, .int x22), (0, .ref (ad 0)), (1, .int v1), (5, .int v5)]) hx hb dX10_measured_127 rfl hl (by decide) rfl (fun ls hl => ?_)
          obtain ⟨x28, ex28⟩ : ∃ z : Int32, z = v5 + 1 := ⟨_, rfl⟩
          have hm : m_X10_measured_41  n σ v1 x27 x28 = mm := by rw [ex28]; exact hm
          refine lv_iinc (v := x28) (lv' := [(5, .int x28), (3, .long x27), (7, .int x26), (6, .int x22), (0, .ref (ad 0)), (1, .int v1)]) hx hb dX10_measured_128 hl (k := 5) rfl (by rw [ex28]; exact congrArg (v5 + ·) (by decide)) (by decide) rfl (fun ls hl => ?_)
          refine lv_goto (tgt := 41) hx hb dX10_measured_131 (by decide) ?_
          exact ih σ v1 x27 x28 hj_ (eb_up i0_ (eb_nle h4) ex28 hn).1 i1_ (eb_up i0_ (eb_nle h4) ex28 hn).2 hm hw (lv_sub hl [4, 5, 1, 0] rfl)
set_option maxHeartbeats 4000000 in
set_option maxRecDepth 100000 in
theorem k_X10_measured_7 {p : Program} {l : Launch} {e : Env} {s : State} {m : MethodId} {args : Array Value} {below : List Frame} {meth : Method} {c : Code} {A : Nat → Prop} {D : va_G} {cy : Nat → ClassId} {ad : Nat → Nat} (X : eb_X p s m args meth c cX10_measured 8 RX10 (Cond.code yX10_measured cX10_measured 8 none :: wsL_law) none D cy A)   : ∀ (n : Nat) (σ : eb_St) (v1 : Int32) (v2 : Int32) (v3 : Int64) (v5 : Int32) (hj_ : rJ σ) (i0_ : vp_in v1 6) (i1_ : v2.toInt ≤ 16384) (i2_ : 0 ≤ v5.toInt) (hn : (v2.toInt - v5.toInt).toNat < n) {H : Heap} {locs : List Loc} {ls : Array Slot} {mm : eb_St} (_ : (m_X10_measured_7  n σ v1 v2 v3 v5) = mm) (hw : eb_H D 18 cy rL ad A s.heap σ H locs) (hl : lv_has ls 8 [(0, .ref (ad 0)), (1, .int v1), (2, .int v2), (3, .long v3), (5, .int v5)]), W p l e ({ frames := 0, cells := 0, slots := 0, locals := 0 } : Room) s m args below meth c H locs 0 0 (MQ below (eb_Q D 18 cy rL ad A (none) mm) args s 0 0 A) (F0 m 7 ls []) := by
  have hx := X.1.1
  have hb := X.1.2.1
  have hown := X.1.2.2.2.1
  have hts := X.1.2.2.2.2
  intro n
  induction n with
  | zero => intro σ v1 v2 v3 v5 hj_ i0_ i1_ i2_ hn; exact absurd hn (Nat.not_lt_zero _)
  | succ n ih =>
    intro σ v1 v2 v3 v5 hj_ i0_ i1_ i2_ hn H locs ls mm hm hw hl
    have hm : (if v2 ≤ v5 then m_X10_measured_41  25 σ v1 v3 0 else (fun (x2 : Int64) => (fun (x3 : Int32) => m_X10_measured_7  n σ v1 v2 x2 x3) (v5 + 1)) ((v3 ^^^ (((σ.1 17 v5.toNatClampNeg) &&& 255).toInt64)) * 1099511628211)) = mm := hm
    refine lv_iload hx hb dX10_measured_7 (lv_at hl 4 rfl) ?_
    refine lv_iload_n hx hb dX10_measured_9 rfl (lv_at hl 2 rfl) ?_
    refine lv_icmp_ge (tgt := 38) hx hb dX10_measured_10 (by decide) (fun h1 => ?_) (fun h1 => ?_)
    · have hm := (if_pos h1).symm.trans hm
      refine lv_iconst (v := 0) hx hb dX10_measured_38 (by decide) ?_
      refine lv_istore (lv' := [(5, .int 0), (0, .ref (ad 0)), (1, .int v1), (2, .int v2), (3, .long v3)]) hx hb dX10_measured_39 hl (by decide) rfl (fun ls hl => ?_)
      exact k_X10_measured_41 X   25 σ v1 v3 0 hj_ (by decide) i0_ (by decide) hm hw (lv_sub hl [1, 2, 4, 0] rfl)
    · have hm := (if_neg h1).symm.trans hm
      refine lv_lload_n hx hb dX10_measured_13 rfl (lv_at hl 3 rfl) ?_
      refine lv_aload_n hx hb dX10_measured_14 rfl (lv_at hl 0 rfl) ?_
      refine eb_get (T := TX10) X hw 0 43 (by decide) ⟨rfl, rfl, rfl⟩ (by decide) (fun _ h => List.mem_cons_of_mem _ (inlX10 _ h)) (List.mem_cons_of_mem _ wi_6_3) (v := .ref (ad 17)) rfl dX10_measured_15 ?_
      refine lv_iload hx hb dX10_measured_18 (lv_at hl 4 rfl) ?_
      refine eb_bald (n := 16384) X hw 17 (by decide) rfl rfl (eb_cop i1_ i2_ (eb_nle h1)) dX10_measured_20 ?_
      refine lv_sipush (v := 255) hx hb dX10_measured_21 (by decide) ?_
      refine lv_iand hx hb dX10_measured_24 ?_
      refine lv_i2l (v := ((σ.1 17 v5.toNatClampNeg) &&& 255).toInt64) hx hb dX10_measured_25 rfl ?_
      refine lv_lxor hx hb dX10_measured_26 ?_
      refine lv_ldc2 hx hb hown (hts _ (List.mem_cons_of_mem _ wi_38_10)) dX10_measured_27 ?_
      refine lv_lmul hx hb dX10_measured_30 ?_
      refine lv_topl (fun x2 ex2 => ?_)
      have hm : (fun (x3 : Int32) => m_X10_measured_7  n σ v1 v2 x2 x3) (v5 + 1) = mm := by rw [ex2]; exact hm
      refine lv_lstore_n (lv' := [(3, .long x2), (0, .ref (ad 0)), (1, .int v1), (2, .int v2), (5, .int v5)]) hx hb dX10_measured_31 rfl hl (by decide) rfl (fun ls hl => ?_)
      obtain ⟨x3, ex3⟩ : ∃ z : Int32, z = v5 + 1 := ⟨_, rfl⟩
      have hm : m_X10_measured_7  n σ v1 v2 x2 x3 = mm := by rw [ex3]; exact hm
      refine lv_iinc (v := x3) (lv' := [(5, .int x3), (3, .long x2), (0, .ref (ad 0)), (1, .int v1), (2, .int v2)]) hx hb dX10_measured_32 hl (k := 4) rfl (by rw [ex3]; exact congrArg (v5 + ·) (by decide)) (by decide) rfl (fun ls hl => ?_)
      refine lv_goto (tgt := 7) hx hb dX10_measured_35 (by decide) ?_
      exact ih σ v1 v2 x2 x3 hj_ i0_ i1_ (eb_up i2_ (eb_nle h1) ex3 hn).1 (eb_up1 (eb_nle h1) ex3 hn) hm hw (lv_sub hl [2, 3, 4, 1, 0] rfl)
set_option maxHeartbeats 4000000 in
set_option maxRecDepth 100000 in
theorem c_X10_measured (l : Launch) (D : va_G) (cy : Nat → ClassId) (ad : Nat → Nat) (σ : eb_St) (a0 : Int32) (a1 : Int32) (hj_ : rJ σ) (h0_ : vp_in a0 6) (h1_ : a1.toInt ≤ 16384) : eb_M l yX10_measured (Cond.code yX10_measured cX10_measured 8 none :: wsL_law) 0 0 D 18 cy rL ad σ [.ref (ad 0), .int a0, .int a1] (none) (m_X10_measured σ a0 a1) := by
  refine eb_start (own := RX10) (by decide) rfl rfl (Nat.le_of_ble_eq_true rfl) ?_
  intro p e s m args below meth c A ls X hw hl
  have hl : lv_has ls 8 [(0, .ref (ad 0)), (1, .int a0), (2, .int a1)] := hl
  have hx := X.1.1
  have hb := X.1.2.1
  have hown := X.1.2.2.2.1
  have hts := X.1.2.2.2.2
  generalize hm : m_X10_measured σ a0 a1 = mm
  have hm : m_X10_measured_7  ((a1.toInt - (0 : Int32).toInt).toNat + 1) σ a0 a1 (-3750763034362895579) 0 = mm := hm
  refine lv_ldc2 hx hb hown (hts _ (List.mem_cons_of_mem _ wi_38_9)) dX10_measured_0 ?_
  refine lv_lstore_n (lv' := [(3, .long (-3750763034362895579)), (0, .ref (ad 0)), (1, .int a0), (2, .int a1)]) hx hb dX10_measured_3 rfl hl (by decide) rfl (fun ls hl => ?_)
  refine lv_iconst (v := 0) hx hb dX10_measured_4 (by decide) ?_
  refine lv_istore (lv' := [(5, .int 0), (3, .long (-3750763034362895579)), (0, .ref (ad 0)), (1, .int a0), (2, .int a1)]) hx hb dX10_measured_5 hl (by decide) rfl (fun ls hl => ?_)
  exact k_X10_measured_7 X   ((a1.toInt - (0 : Int32).toInt).toNat + 1) σ a0 a1 (-3750763034362895579) 0 hj_ h0_ h1_ (by decide) (Nat.lt_succ_self _) hm hw (lv_sub hl [2, 3, 4, 1, 0] rfl)

theorem J_X10_create_206 : ∀ (n : Nat) (σ : eb_St) (v1 : Int64) (v3 : Int64) (v5 : Int64) (v7 : Int64) (v9 : Int64) (v11 : Int64) (v13 : Int64) (v15 : Int32) (v16 : Int32) {mm : Int64 × eb_St} (_ : (m_X10_create_206  n σ v1 v3 v5 v7 v9 v11 v13 v15 v16) = mm) (hj_ : rJ σ) (i0_ : rQ1 v1 v3 v5 v7) (i1_ : rQ2 v13) (i2_ : rQ3 v11 v13) (i3_ : v15 = -1 ∨ vp_in v15 6) (i4_ : v16.toInt ≤ 5) (hn : (v16.toInt + 1).toNat < n), rJ mm.2 := by
  intro n
  induction n with
  | zero => intro σ v1 v3 v5 v7 v9 v11 v13 v15 v16 mm hm hj_ i0_ i1_ i2_ i3_ i4_ hn; exact absurd hn (Nat.not_lt_zero _)
  | succ n ih =>
    intro σ v1 v3 v5 v7 v9 v11 v13 v15 v16 mm hm hj_ i0_ i1_ i2_ i3_ i4_ hn
    have hm : (if v16 < 0 then (fun (z29 : Bool × eb_St) => (if (eb_b z29.1) = 0 then ((-4), z29.2) else (fun (z31 : Bool × eb_St) => (if (eb_b z31.1) = 0 then ((-4), z31.2) else (fun (z33 : Bool × eb_St) => (if (eb_b z33.1) = 0 then ((-4), z33.2) else (if v15 = (-1) then ((-3), z33.2) else (fun (z36 : eb_St) => (if v13 = 0 then (fun (z39 : eb_St) => (v15.toInt64, z39)) (m_X10_measured (eb_pI (eb_pI (eb_pI z36 9 v15.toNatClampNeg v9.toInt32) 10 v15.toNatClampNeg 0) 11 v15.toNatClampNeg v13.toInt32) v15 v7.toInt32) else (fun (z38 : eb_St) => (v15.toInt64, z38)) (m_X10_measured (eb_pI (eb_pI (eb_pI z36 9 v15.toNatClampNeg v9.toInt32) 10 v15.toNatClampNeg v11.toInt32) 11 v15.toNatClampNeg v13.toInt32) v15 v7.toInt32))) (m_X10_makes z33.2 v15 v1.toInt32 v3.toInt32 v5.toInt32 v7.toInt32)))) (m_X10_mayAll z31.2 v5 v7 1))) (m_X10_mayAll z29.2 v11 v13 3))) (m_X10_mayAll σ v1 v3 3) else (fun (z40 : Bool) => (if (eb_b z40) = 0 then (fun (x49 : Int32) => m_X10_create_206  n σ v1 v3 v5 v7 v9 v11 v13 v16 x49) (v16 + (-1)) else (fun (z42 : Bool) => (if (eb_b z42) = 0 then (fun (z44 : Bool) => (if (eb_b z44) = 0 then (fun (z46 : Bool) => (if (eb_b z46) = 0 then (fun (x48 : Int32) => m_X10_create_206  n σ v1 v3 v5 v7 v9 v11 v13 v15 x48) (v16 + (-1)) else ((-2), σ))) (m_X10_meet v11 v13 ((σ.1 7 v16.toNatClampNeg).toInt64) ((σ.1 8 v16.toNatClampNeg).toInt64)) else ((-2), σ))) (m_X10_meet v1 v3 ((σ.1 10 v16.toNatClampNeg).toInt64) ((σ.1 11 v16.toNatClampNeg).toInt64)) else ((-2), σ))) (m_X10_meet v1 v3 ((σ.1 7 v16.toNatClampNeg).toInt64) ((σ.1 8 v16.toNatClampNeg).toInt64)))) (m_X10_isLive σ v16)) = mm := hm
    refine eb_em (c := v16 < 0) (fun h28 => ?_) (fun h28 => ?_)
    · have hm := (if_pos h28).symm.trans hm
      obtain ⟨z29, qz29⟩ : ∃ t : Bool × eb_St, t = m_X10_mayAll σ v1 v3 3 := ⟨_, rfl⟩
      have hm : (if (eb_b z29.1) = 0 then ((-4), z29.2) else (fun (z31 : Bool × eb_St) => (if (eb_b z31.1) = 0 then ((-4), z31.2) else (fun (z33 : Bool × eb_St) => (if (eb_b z33.1) = 0 then ((-4), z33.2) else (if v15 = (-1) then ((-3), z33.2) else (fun (z36 : eb_St) => (if v13 = 0 then (fun (z39 : eb_St) => (v15.toInt64, z39)) (m_X10_measured (eb_pI (eb_pI (eb_pI z36 9 v15.toNatClampNeg v9.toInt32) 10 v15.toNatClampNeg 0) 11 v15.toNatClampNeg v13.toInt32) v15 v7.toInt32) else (fun (z38 : eb_St) => (v15.toInt64, z38)) (m_X10_measured (eb_pI (eb_pI (eb_pI z36 9 v15.toNatClampNeg v9.toInt32) 10 v15.toNatClampNeg v11.toInt32) 11 v15.toNatClampNeg v13.toInt32) v15 v7.toInt32))) (m_X10_makes z33.2 v15 v1.toInt32 v3.toInt32 v5.toInt32 v7.toInt32)))) (m_X10_mayAll z31.2 v5 v7 1))) (m_X10_mayAll z29.2 v11 v13 3)) = mm := by rw [qz29]; exact hm
      have jz29 : rJ z29.2 := J_X10_mayAll qz29.symm hj_
      refine eb_em (c := (eb_b z29.1) = 0) (fun h30 => ?_) (fun h30 => ?_)
      · have hm := (if_pos h30).symm.trans hm
        subst hm
        exact jz29
      · have hm := (if_neg h30).symm.trans hm
        obtain ⟨z31, qz31⟩ : ∃ t : Bool × eb_St, t = m_X10_mayAll z29.2 v11 v13 3 := ⟨_, rfl⟩
        have hm : (if (eb_b z31.1) = 0 then ((-4), z31.2) else (fun (z33 : Bool × eb_St) => (if (eb_b z33.1) = 0 then ((-4), z33.2) else (if v15 = (-1) then ((-3), z33.2) else (fun (z36 : eb_St) => (if v13 = 0 then (fun (z39 : eb_St) => (v15.toInt64, z39)) (m_X10_measured (eb_pI (eb_pI (eb_pI z36 9 v15.toNatClampNeg v9.toInt32) 10 v15.toNatClampNeg 0) 11 v15.toNatClampNeg v13.toInt32) v15 v7.toInt32) else (fun (z38 : eb_St) => (v15.toInt64, z38)) (m_X10_measured (eb_pI (eb_pI (eb_pI z36 9 v15.toNatClampNeg v9.toInt32) 10 v15.toNatClampNeg v11.toInt32) 11 v15.toNatClampNeg v13.toInt32) v15 v7.toInt32))) (m_X10_makes z33.2 v15 v1.toInt32 v3.toInt32 v5.toInt32 v7.toInt32)))) (m_X10_mayAll z31.2 v5 v7 1)) = mm := by rw [qz31]; exact hm
        have jz31 : rJ z31.2 := J_X10_mayAll qz31.symm jz29
        refine eb_em (c := (eb_b z31.1) = 0) (fun h32 => ?_) (fun h32 => ?_)
        · have hm := (if_pos h32).symm.trans hm
          subst hm
          exact jz31
        · have hm := (if_neg h32).symm.trans hm
          obtain ⟨z33, qz33⟩ : ∃ t : Bool × eb_St, t = m_X10_mayAll z31.2 v5 v7 1 := ⟨_, rfl⟩
          have hm : (if (eb_b z33.1) = 0 then ((-4), z33.2) else (if v15 = (-1) then ((-3), z33.2) else (fun (z36 : eb_St) => (if v13 = 0 then (fun (z39 : eb_St) => (v15.toInt64, z39)) (m_X10_measured (eb_pI (eb_pI (eb_pI z36 9 v15.toNatClampNeg v9.toInt32) 10 v15.toNatClampNeg 0) 11 v15.toNatClampNeg v13.toInt32) v15 v7.toInt32) else (fun (z38 : eb_St) => (v15.toInt64, z38)) (m_X10_measured (eb_pI (eb_pI (eb_pI z36 9 v15.toNatClampNeg v9.toInt32) 10 v15.toNatClampNeg v11.toInt32) 11 v15.toNatClampNeg v13.toInt32) v15 v7.toInt32))) (m_X10_makes z33.2 v15 v1.toInt32 v3.toInt32 v5.toInt32 v7.toInt32))) = mm := by rw [qz33]; exact hm
          have jz33 : rJ z33.2 := J_X10_mayAll qz33.symm jz31
          refine eb_emn (c := (eb_b z33.1) = 0) (fun h34 => ?_) (fun h34 => ?_)
          · have hm := (if_neg h34).symm.trans hm
            refine eb_emn (c := v15 = (-1)) (fun h35 => ?_) (fun h35 => ?_)
            · have hm := (if_neg h35).symm.trans hm
              obtain ⟨z36, qz36⟩ : ∃ t : eb_St, t = m_X10_makes z33.2 v15 v1.toInt32 v3.toInt32 v5.toInt32 v7.toInt32 := ⟨_, rfl⟩
              have hm : (if v13 = 0 then (fun (z39 : eb_St) => (v15.toInt64, z39)) (m_X10_measured (eb_pI (eb_pI (eb_pI z36 9 v15.toNatClampNeg v9.toInt32) 10 v15.toNatClampNeg 0) 11 v15.toNatClampNeg v13.toInt32) v15 v7.toInt32) else (fun (z38 : eb_St) => (v15.toInt64, z38)) (m_X10_measured (eb_pI (eb_pI (eb_pI z36 9 v15.toNatClampNeg v9.toInt32) 10 v15.toNatClampNeg v11.toInt32) 11 v15.toNatClampNeg v13.toInt32) v15 v7.toInt32)) = mm := by rw [qz36]; exact hm
              have jz36 : rJ z36 := J_X10_makes qz36.symm jz33 (i3_.resolve_left h35) (eb_mk1 i0_) (eb_mk2 i0_) (eb_mk3 i0_)
              refine eb_emn (c := v13 = 0) (fun h37 => ?_) (fun h37 => ?_)
              · have hm := (if_neg h37).symm.trans hm
                obtain ⟨z38, qz38⟩ : ∃ t : eb_St, t = m_X10_measured (eb_pI (eb_pI (eb_pI z36 9 v15.toNatClampNeg v9.toInt32) 10 v15.toNatClampNeg v11.toInt32) 11 v15.toNatClampNeg v13.toInt32) v15 v7.toInt32 := ⟨_, rfl⟩
                have hm : (v15.toInt64, z38) = mm := by rw [qz38]; exact hm
                have jz38 : rJ z38 := J_X10_measured qz38.symm (show rJ (eb_pI (eb_pI (eb_pI z36 9 v15.toNatClampNeg v9.toInt32) 10 v15.toNatClampNeg v11.toInt32) 11 v15.toNatClampNeg v13.toInt32) from rJ_ss (show rJ (eb_pI (eb_pI z36 9 v15.toNatClampNeg v9.toInt32) 10 v15.toNatClampNeg v11.toInt32) from rJ_sh jz36 (eb_mk4 i1_ i2_ h37)) (eb_mk5 i1_)) (i3_.resolve_left h35) (eb_mk2 i0_).2
                subst hm
                exact jz38
              · have hm := (if_pos h37).symm.trans hm
                obtain ⟨z39, qz39⟩ : ∃ t : eb_St, t = m_X10_measured (eb_pI (eb_pI (eb_pI z36 9 v15.toNatClampNeg v9.toInt32) 10 v15.toNatClampNeg 0) 11 v15.toNatClampNeg v13.toInt32) v15 v7.toInt32 := ⟨_, rfl⟩
                have hm : (v15.toInt64, z39) = mm := by rw [qz39]; exact hm
                have jz39 : rJ z39 := J_X10_measured qz39.symm (show rJ (eb_pI (eb_pI (eb_pI z36 9 v15.toNatClampNeg v9.toInt32) 10 v15.toNatClampNeg 0) 11 v15.toNatClampNeg v13.toInt32) from rJ_ss (show rJ (eb_pI (eb_pI z36 9 v15.toNatClampNeg v9.toInt32) 10 v15.toNatClampNeg 0) from rJ_sh jz36 (by decide)) (eb_mk5 i1_)) (i3_.resolve_left h35) (eb_mk2 i0_).2
                subst hm
                exact jz39
            · have hm := (if_pos h35).symm.trans hm
              subst hm
              exact jz33
          · have hm := (if_pos h34).symm.trans hm
            subst hm
            exact jz33
    · have hm := (if_neg h28).symm.trans hm
      obtain ⟨z40, qz40⟩ : ∃ t : Bool, t = m_X10_isLive σ v16 := ⟨_, rfl⟩
      have hm : (if (eb_b z40) = 0 then (fun (x49 : Int32) => m_X10_create_206  n σ v1 v3 v5 v7 v9 v11 v13 v16 x49) (v16 + (-1)) else (fun (z42 : Bool) => (if (eb_b z42) = 0 then (fun (z44 : Bool) => (if (eb_b z44) = 0 then (fun (z46 : Bool) => (if (eb_b z46) = 0 then (fun (x48 : Int32) => m_X10_create_206  n σ v1 v3 v5 v7 v9 v11 v13 v15 x48) (v16 + (-1)) else ((-2), σ))) (m_X10_meet v11 v13 ((σ.1 7 v16.toNatClampNeg).toInt64) ((σ.1 8 v16.toNatClampNeg).toInt64)) else ((-2), σ))) (m_X10_meet v1 v3 ((σ.1 10 v16.toNatClampNeg).toInt64) ((σ.1 11 v16.toNatClampNeg).toInt64)) else ((-2), σ))) (m_X10_meet v1 v3 ((σ.1 7 v16.toNatClampNeg).toInt64) ((σ.1 8 v16.toNatClampNeg).toInt64))) = mm := by rw [qz40]; exact hm
      refine eb_emn (c := (eb_b z40) = 0) (fun h41 => ?_) (fun h41 => ?_)
      · have hm := (if_neg h41).symm.trans hm
        obtain ⟨z42, qz42⟩ : ∃ t : Bool, t = m_X10_meet v1 v3 ((σ.1 7 v16.toNatClampNeg).toInt64) ((σ.1 8 v16.toNatClampNeg).toInt64) := ⟨_, rfl⟩
        have hm : (if (eb_b z42) = 0 then (fun (z44 : Bool) => (if (eb_b z44) = 0 then (fun (z46 : Bool) => (if (eb_b z46) = 0 then (fun (x48 : Int32) => m_X10_create_206  n σ v1 v3 v5 v7 v9 v11 v13 v15 x48) (v16 + (-1)) else ((-2), σ))) (m_X10_meet v11 v13 ((σ.1 7 v16.toNatClampNeg).toInt64) ((σ.1 8 v16.toNatClampNeg).toInt64)) else ((-2), σ))) (m_X10_meet v1 v3 ((σ.1 10 v16.toNatClampNeg).toInt64) ((σ.1 11 v16.toNatClampNeg).toInt64)) else ((-2), σ)) = mm := by rw [qz42]; exact hm
        refine eb_emn (c := (eb_b z42) = 0) (fun h43 => ?_) (fun h43 => ?_)
        · have hm := (if_neg h43).symm.trans hm
          subst hm
          exact hj_
        · have hm := (if_pos h43).symm.trans hm
          obtain ⟨z44, qz44⟩ : ∃ t : Bool, t = m_X10_meet v1 v3 ((σ.1 10 v16.toNatClampNeg).toInt64) ((σ.1 11 v16.toNatClampNeg).toInt64) := ⟨_, rfl⟩
          have hm : (if (eb_b z44) = 0 then (fun (z46 : Bool) => (if (eb_b z46) = 0 then (fun (x48 : Int32) => m_X10_create_206  n σ v1 v3 v5 v7 v9 v11 v13 v15 x48) (v16 + (-1)) else ((-2), σ))) (m_X10_meet v11 v13 ((σ.1 7 v16.toNatClampNeg).toInt64) ((σ.1 8 v16.toNatClampNeg).toInt64)) else ((-2), σ)) = mm := by rw [qz44]; exact hm
          refine eb_emn (c := (eb_b z44) = 0) (fun h45 => ?_) (fun h45 => ?_)
          · have hm := (if_neg h45).symm.trans hm
            subst hm
            exact hj_
          · have hm := (if_pos h45).symm.trans hm
            obtain ⟨z46, qz46⟩ : ∃ t : Bool, t = m_X10_meet v11 v13 ((σ.1 7 v16.toNatClampNeg).toInt64) ((σ.1 8 v16.toNatClampNeg).toInt64) := ⟨_, rfl⟩
            have hm : (if (eb_b z46) = 0 then (fun (x48 : Int32) => m_X10_create_206  n σ v1 v3 v5 v7 v9 v11 v13 v15 x48) (v16 + (-1)) else ((-2), σ)) = mm := by rw [qz46]; exact hm
            refine eb_em (c := (eb_b z46) = 0) (fun h47 => ?_) (fun h47 => ?_)
            · have hm := (if_pos h47).symm.trans hm
              obtain ⟨x48, ex48⟩ : ∃ z : Int32, z = v16 + (-1) := ⟨_, rfl⟩
              have hm : m_X10_create_206  n σ v1 v3 v5 v7 v9 v11 v13 v15 x48 = mm := by rw [ex48]; exact hm
              exact ih σ v1 v3 v5 v7 v9 v11 v13 v15 x48 hm hj_ i0_ i1_ i2_ i3_ (by have q := (eb_dn (eb_nlt h28) ex48 hn).2.2; omega) (eb_dn (eb_nlt h28) ex48 hn).2.1
            · have hm := (if_neg h47).symm.trans hm
              subst hm
              exact hj_
      · have hm := (if_pos h41).symm.trans hm
        obtain ⟨x49, ex49⟩ : ∃ z : Int32, z = v16 + (-1) := ⟨_, rfl⟩
        have hm : m_X10_create_206  n σ v1 v3 v5 v7 v9 v11 v13 v16 x49 = mm := by rw [ex49]; exact hm
        exact ih σ v1 v3 v5 v7 v9 v11 v13 v16 x49 hm hj_ i0_ i1_ i2_ (Or.inr (vp_in_iff.mpr ⟨eb_nn (eb_nlt h28), by have := i4_; omega⟩)) (by have q := (eb_dn (eb_nlt h28) ex49 hn).2.2; omega) (eb_dn (eb_nlt h28) ex49 hn).2.1
theorem J_X10_create_200 {σ : eb_St} {v1 : Int64} {v3 : Int64} {v5 : Int64} {v7 : Int64} {v9 : Int64} {v11 : Int64} {v13 : Int64} {mm : Int64 × eb_St} (hm : (m_X10_create_200  σ v1 v3 v5 v7 v9 v11 v13) = mm) (hj_ : rJ σ) (h1_ : rQ1 v1 v3 v5 v7) (h2_ : rQ2 v13) (h3_ : rQ3 v11 v13) : rJ mm.2 := by
  have hm : m_X10_create_206  7 σ v1 v3 v5 v7 v9 v11 v13 (-1) 5 = mm := hm
  exact J_X10_create_206 7 σ v1 v3 v5 v7 v9 v11 v13 (-1) 5 hm hj_ h1_ h2_ h3_ (Or.inl rfl) (by decide) (by decide)
theorem J_X10_create_167 {σ : eb_St} {v1 : Int64} {v3 : Int64} {v5 : Int64} {v7 : Int64} {v9 : Int64} {v11 : Int64} {v13 : Int64} {mm : Int64 × eb_St} (hm : (m_X10_create_167  σ v1 v3 v5 v7 v9 v11 v13) = mm) (hj_ : rJ σ) (h1_ : rQ1 v1 v3 v5 v7) (h2_ : rQ2 v13) : rJ mm.2 := by
  have hm : (if v13 = 0 then m_X10_create_200  σ v1 v3 v5 v7 v9 v11 v13 else (fun (z24 : Bool) => (if (eb_b z24) = 0 then ((-1), σ) else (fun (z26 : Bool) => (if (eb_b z26) = 0 then m_X10_create_200  σ v1 v3 v5 v7 v9 v11 v13 else ((-1), σ))) (m_X10_meet v1 v3 v11 v13))) (m_X10_isTold v11 v13)) = mm := hm
  refine eb_em (c := v13 = 0) (fun h23 => ?_) (fun h23 => ?_)
  · have hm := (if_pos h23).symm.trans hm
    exact J_X10_create_200 hm hj_ h1_ h2_ (Or.inl (eb_z0 h23))
  · have hm := (if_neg h23).symm.trans hm
    obtain ⟨z24, qz24⟩ : ∃ t : Bool, t = m_X10_isTold v11 v13 := ⟨_, rfl⟩
    have hm : (if (eb_b z24) = 0 then ((-1), σ) else (fun (z26 : Bool) => (if (eb_b z26) = 0 then m_X10_create_200  σ v1 v3 v5 v7 v9 v11 v13 else ((-1), σ))) (m_X10_meet v1 v3 v11 v13)) = mm := by rw [qz24]; exact hm
    refine eb_em (c := (eb_b z24) = 0) (fun h25 => ?_) (fun h25 => ?_)
    · have hm := (if_pos h25).symm.trans hm
      subst hm
      exact hj_
    · have hm := (if_neg h25).symm.trans hm
      obtain ⟨z26, qz26⟩ : ∃ t : Bool, t = m_X10_meet v1 v3 v11 v13 := ⟨_, rfl⟩
      have hm : (if (eb_b z26) = 0 then m_X10_create_200  σ v1 v3 v5 v7 v9 v11 v13 else ((-1), σ)) = mm := by rw [qz26]; exact hm
      refine eb_em (c := (eb_b z26) = 0) (fun h27 => ?_) (fun h27 => ?_)
      · have hm := (if_pos h27).symm.trans hm
        exact J_X10_create_200 hm hj_ h1_ h2_ (eb_q3 h2_ (show m_X10_isTold v11 v13 = true from by rw [← qz24]; exact eb_b_n0 h25))
      · have hm := (if_neg h27).symm.trans hm
        subst hm
        exact hj_
theorem J_X10_create_119 {σ : eb_St} {v1 : Int64} {v3 : Int64} {v5 : Int64} {v7 : Int64} {v9 : Int64} {v11 : Int64} {v13 : Int64} {mm : Int64 × eb_St} (hm : (m_X10_create_119  σ v1 v3 v5 v7 v9 v11 v13) = mm) (hj_ : rJ σ) (h1_ : rQ1 v1 v3 v5 v7) : rJ mm.2 := by
  have hm : (fun (z17 : Bool) => (if (eb_b z17) = 0 then ((-1), σ) else (if (v9 - v9 / 4 * 4) = 0 then (if v13 = 0 then m_X10_create_167  σ v1 v3 v5 v7 v9 v11 v13 else (fun (z21 : Bool) => (if (eb_b z21) = 0 then ((-1), σ) else m_X10_create_167  σ v1 v3 v5 v7 v9 v11 v13)) (m_X10_isPower v13 8 4096)) else ((-1), σ)))) (m_X10_in v9 0 (v3 - 1)) = mm := hm
  obtain ⟨z17, qz17⟩ : ∃ t : Bool, t = m_X10_in v9 0 (v3 - 1) := ⟨_, rfl⟩
  have hm : (if (eb_b z17) = 0 then ((-1), σ) else (if (v9 - v9 / 4 * 4) = 0 then (if v13 = 0 then m_X10_create_167  σ v1 v3 v5 v7 v9 v11 v13 else (fun (z21 : Bool) => (if (eb_b z21) = 0 then ((-1), σ) else m_X10_create_167  σ v1 v3 v5 v7 v9 v11 v13)) (m_X10_isPower v13 8 4096)) else ((-1), σ))) = mm := by rw [qz17]; exact hm
  refine eb_em (c := (eb_b z17) = 0) (fun h18 => ?_) (fun h18 => ?_)
  · have hm := (if_pos h18).symm.trans hm
    subst hm
    exact hj_
  · have hm := (if_neg h18).symm.trans hm
    refine eb_emn (c := (v9 - v9 / 4 * 4) = 0) (fun h19 => ?_) (fun h19 => ?_)
    · have hm := (if_neg h19).symm.trans hm
      subst hm
      exact hj_
    · have hm := (if_pos h19).symm.trans hm
      refine eb_em (c := v13 = 0) (fun h20 => ?_) (fun h20 => ?_)
      · have hm := (if_pos h20).symm.trans hm
        exact J_X10_create_167 hm hj_ h1_ (Or.inl (eb_z0 h20))
      · have hm := (if_neg h20).symm.trans hm
        obtain ⟨z21, qz21⟩ : ∃ t : Bool, t = m_X10_isPower v13 8 4096 := ⟨_, rfl⟩
        have hm : (if (eb_b z21) = 0 then ((-1), σ) else m_X10_create_167  σ v1 v3 v5 v7 v9 v11 v13) = mm := by rw [qz21]; exact hm
        refine eb_emn (c := (eb_b z21) = 0) (fun h22 => ?_) (fun h22 => ?_)
        · have hm := (if_neg h22).symm.trans hm
          exact J_X10_create_167 hm hj_ h1_ (eb_q2 (show m_X10_isPower v13 8 4096 = true from by rw [← qz21]; exact eb_b_n0 h22))
        · have hm := (if_pos h22).symm.trans hm
          subst hm
          exact hj_
theorem J_X10_create {σ : eb_St}  {mm : Int64 × eb_St} (hm : m_X10_create σ = mm) (hj_ : rJ σ) : rJ mm.2 := by
  have hm : (fun (z1 : Int64) => (fun (z2 : Int64) => (fun (z3 : Int64) => (fun (z4 : Int64) => (fun (z5 : Int64) => (fun (z6 : Int64) => (fun (z7 : Int64) => (fun (z8 : Bool) => (if (eb_b z8) = 0 then ((-1), σ) else (fun (z10 : Bool) => (if (eb_b z10) = 0 then ((-1), σ) else (fun (z12 : Bool) => (if (eb_b z12) = 0 then ((-1), σ) else (if z4 ≤ 0 then m_X10_create_119  σ z1 z2 z3 z4 z5 z6 z7 else (if z3 < 0 then ((-1), σ) else (if z3 ≤ (65536 - z4) then m_X10_create_119  σ z1 z2 z3 z4 z5 z6 z7 else ((-1), σ)))))) (m_X10_in z4 0 z2))) (m_X10_isTold z1 z2))) (m_X10_isPower z2 32 16384)) (m_X10_x σ 16)) (m_X10_x σ 15)) (m_X10_x σ 14)) (m_X10_x σ 13)) (m_X10_x σ 12)) (m_X10_x σ 11)) (m_X10_x σ 10) = mm := hm
  obtain ⟨z1, qz1⟩ : ∃ t : Int64, t = m_X10_x σ 10 := ⟨_, rfl⟩
  have hm : (fun (z2 : Int64) => (fun (z3 : Int64) => (fun (z4 : Int64) => (fun (z5 : Int64) => (fun (z6 : Int64) => (fun (z7 : Int64) => (fun (z8 : Bool) => (if (eb_b z8) = 0 then ((-1), σ) else (fun (z10 : Bool) => (if (eb_b z10) = 0 then ((-1), σ) else (fun (z12 : Bool) => (if (eb_b z12) = 0 then ((-1), σ) else (if z4 ≤ 0 then m_X10_create_119  σ z1 z2 z3 z4 z5 z6 z7 else (if z3 < 0 then ((-1), σ) else (if z3 ≤ (65536 - z4) then m_X10_create_119  σ z1 z2 z3 z4 z5 z6 z7 else ((-1), σ)))))) (m_X10_in z4 0 z2))) (m_X10_isTold z1 z2))) (m_X10_isPower z2 32 16384)) (m_X10_x σ 16)) (m_X10_x σ 15)) (m_X10_x σ 14)) (m_X10_x σ 13)) (m_X10_x σ 12)) (m_X10_x σ 11) = mm := by rw [qz1]; exact hm
  obtain ⟨z2, qz2⟩ : ∃ t : Int64, t = m_X10_x σ 11 := ⟨_, rfl⟩
  have hm : (fun (z3 : Int64) => (fun (z4 : Int64) => (fun (z5 : Int64) => (fun (z6 : Int64) => (fun (z7 : Int64) => (fun (z8 : Bool) => (if (eb_b z8) = 0 then ((-1), σ) else (fun (z10 : Bool) => (if (eb_b z10) = 0 then ((-1), σ) else (fun (z12 : Bool) => (if (eb_b z12) = 0 then ((-1), σ) else (if z4 ≤ 0 then m_X10_create_119  σ z1 z2 z3 z4 z5 z6 z7 else (if z3 < 0 then ((-1), σ) else (if z3 ≤ (65536 - z4) then m_X10_create_119  σ z1 z2 z3 z4 z5 z6 z7 else ((-1), σ)))))) (m_X10_in z4 0 z2))) (m_X10_isTold z1 z2))) (m_X10_isPower z2 32 16384)) (m_X10_x σ 16)) (m_X10_x σ 15)) (m_X10_x σ 14)) (m_X10_x σ 13)) (m_X10_x σ 12) = mm := by rw [qz2]; exact hm
  obtain ⟨z3, qz3⟩ : ∃ t : Int64, t = m_X10_x σ 12 := ⟨_, rfl⟩
  have hm : (fun (z4 : Int64) => (fun (z5 : Int64) => (fun (z6 : Int64) => (fun (z7 : Int64) => (fun (z8 : Bool) => (if (eb_b z8) = 0 then ((-1), σ) else (fun (z10 : Bool) => (if (eb_b z10) = 0 then ((-1), σ) else (fun (z12 : Bool) => (if (eb_b z12) = 0 then ((-1), σ) else (if z4 ≤ 0 then m_X10_create_119  σ z1 z2 z3 z4 z5 z6 z7 else (if z3 < 0 then ((-1), σ) else (if z3 ≤ (65536 - z4) then m_X10_create_119  σ z1 z2 z3 z4 z5 z6 z7 else ((-1), σ)))))) (m_X10_in z4 0 z2))) (m_X10_isTold z1 z2))) (m_X10_isPower z2 32 16384)) (m_X10_x σ 16)) (m_X10_x σ 15)) (m_X10_x σ 14)) (m_X10_x σ 13) = mm := by rw [qz3]; exact hm
  obtain ⟨z4, qz4⟩ : ∃ t : Int64, t = m_X10_x σ 13 := ⟨_, rfl⟩
  have hm : (fun (z5 : Int64) => (fun (z6 : Int64) => (fun (z7 : Int64) => (fun (z8 : Bool) => (if (eb_b z8) = 0 then ((-1), σ) else (fun (z10 : Bool) => (if (eb_b z10) = 0 then ((-1), σ) else (fun (z12 : Bool) => (if (eb_b z12) = 0 then ((-1), σ) else (if z4 ≤ 0 then m_X10_create_119  σ z1 z2 z3 z4 z5 z6 z7 else (if z3 < 0 then ((-1), σ) else (if z3 ≤ (65536 - z4) then m_X10_create_119  σ z1 z2 z3 z4 z5 z6 z7 else ((-1), σ)))))) (m_X10_in z4 0 z2))) (m_X10_isTold z1 z2))) (m_X10_isPower z2 32 16384)) (m_X10_x σ 16)) (m_X10_x σ 15)) (m_X10_x σ 14) = mm := by rw [qz4]; exact hm
  obtain ⟨z5, qz5⟩ : ∃ t : Int64, t = m_X10_x σ 14 := ⟨_, rfl⟩
  have hm : (fun (z6 : Int64) => (fun (z7 : Int64) => (fun (z8 : Bool) => (if (eb_b z8) = 0 then ((-1), σ) else (fun (z10 : Bool) => (if (eb_b z10) = 0 then ((-1), σ) else (fun (z12 : Bool) => (if (eb_b z12) = 0 then ((-1), σ) else (if z4 ≤ 0 then m_X10_create_119  σ z1 z2 z3 z4 z5 z6 z7 else (if z3 < 0 then ((-1), σ) else (if z3 ≤ (65536 - z4) then m_X10_create_119  σ z1 z2 z3 z4 z5 z6 z7 else ((-1), σ)))))) (m_X10_in z4 0 z2))) (m_X10_isTold z1 z2))) (m_X10_isPower z2 32 16384)) (m_X10_x σ 16)) (m_X10_x σ 15) = mm := by rw [qz5]; exact hm
  obtain ⟨z6, qz6⟩ : ∃ t : Int64, t = m_X10_x σ 15 := ⟨_, rfl⟩
  have hm : (fun (z7 : Int64) => (fun (z8 : Bool) => (if (eb_b z8) = 0 then ((-1), σ) else (fun (z10 : Bool) => (if (eb_b z10) = 0 then ((-1), σ) else (fun (z12 : Bool) => (if (eb_b z12) = 0 then ((-1), σ) else (if z4 ≤ 0 then m_X10_create_119  σ z1 z2 z3 z4 z5 z6 z7 else (if z3 < 0 then ((-1), σ) else (if z3 ≤ (65536 - z4) then m_X10_create_119  σ z1 z2 z3 z4 z5 z6 z7 else ((-1), σ)))))) (m_X10_in z4 0 z2))) (m_X10_isTold z1 z2))) (m_X10_isPower z2 32 16384)) (m_X10_x σ 16) = mm := by rw [qz6]; exact hm
  obtain ⟨z7, qz7⟩ : ∃ t : Int64, t = m_X10_x σ 16 := ⟨_, rfl⟩
  have hm : (fun (z8 : Bool) => (if (eb_b z8) = 0 then ((-1), σ) else (fun (z10 : Bool) => (if (eb_b z10) = 0 then ((-1), σ) else (fun (z12 : Bool) => (if (eb_b z12) = 0 then ((-1), σ) else (if z4 ≤ 0 then m_X10_create_119  σ z1 z2 z3 z4 z5 z6 z7 else (if z3 < 0 then ((-1), σ) else (if z3 ≤ (65536 - z4) then m_X10_create_119  σ z1 z2 z3 z4 z5 z6 z7 else ((-1), σ)))))) (m_X10_in z4 0 z2))) (m_X10_isTold z1 z2))) (m_X10_isPower z2 32 16384) = mm := by rw [qz7]; exact hm
  obtain ⟨z8, qz8⟩ : ∃ t : Bool, t = m_X10_isPower z2 32 16384 := ⟨_, rfl⟩
  have hm : (if (eb_b z8) = 0 then ((-1), σ) else (fun (z10 : Bool) => (if (eb_b z10) = 0 then ((-1), σ) else (fun (z12 : Bool) => (if (eb_b z12) = 0 then ((-1), σ) else (if z4 ≤ 0 then m_X10_create_119  σ z1 z2 z3 z4 z5 z6 z7 else (if z3 < 0 then ((-1), σ) else (if z3 ≤ (65536 - z4) then m_X10_create_119  σ z1 z2 z3 z4 z5 z6 z7 else ((-1), σ)))))) (m_X10_in z4 0 z2))) (m_X10_isTold z1 z2)) = mm := by rw [qz8]; exact hm
  refine eb_em (c := (eb_b z8) = 0) (fun h9 => ?_) (fun h9 => ?_)
  · have hm := (if_pos h9).symm.trans hm
    subst hm
    exact hj_
  · have hm := (if_neg h9).symm.trans hm
    obtain ⟨z10, qz10⟩ : ∃ t : Bool, t = m_X10_isTold z1 z2 := ⟨_, rfl⟩
    have hm : (if (eb_b z10) = 0 then ((-1), σ) else (fun (z12 : Bool) => (if (eb_b z12) = 0 then ((-1), σ) else (if z4 ≤ 0 then m_X10_create_119  σ z1 z2 z3 z4 z5 z6 z7 else (if z3 < 0 then ((-1), σ) else (if z3 ≤ (65536 - z4) then m_X10_create_119  σ z1 z2 z3 z4 z5 z6 z7 else ((-1), σ)))))) (m_X10_in z4 0 z2)) = mm := by rw [qz10]; exact hm
    refine eb_em (c := (eb_b z10) = 0) (fun h11 => ?_) (fun h11 => ?_)
    · have hm := (if_pos h11).symm.trans hm
      subst hm
      exact hj_
    · have hm := (if_neg h11).symm.trans hm
      obtain ⟨z12, qz12⟩ : ∃ t : Bool, t = m_X10_in z4 0 z2 := ⟨_, rfl⟩
      have hm : (if (eb_b z12) = 0 then ((-1), σ) else (if z4 ≤ 0 then m_X10_create_119  σ z1 z2 z3 z4 z5 z6 z7 else (if z3 < 0 then ((-1), σ) else (if z3 ≤ (65536 - z4) then m_X10_create_119  σ z1 z2 z3 z4 z5 z6 z7 else ((-1), σ))))) = mm := by rw [qz12]; exact hm
      refine eb_emn (c := (eb_b z12) = 0) (fun h13 => ?_) (fun h13 => ?_)
      · have hm := (if_neg h13).symm.trans hm
        refine eb_em (c := z4 ≤ 0) (fun h14 => ?_) (fun h14 => ?_)
        · have hm := (if_pos h14).symm.trans hm
          exact J_X10_create_119 hm hj_ (eb_q1 (show m_X10_isPower z2 32 16384 = true from by rw [← qz8]; exact eb_b_n0 h9) (show m_X10_isTold z1 z2 = true from by rw [← qz10]; exact eb_b_n0 h11) (show m_X10_in z4 0 z2 = true from by rw [← qz12]; exact eb_b_n0 h13) (Or.inl h14))
        · have hm := (if_neg h14).symm.trans hm
          refine eb_em (c := z3 < 0) (fun h15 => ?_) (fun h15 => ?_)
          · have hm := (if_pos h15).symm.trans hm
            subst hm
            exact hj_
          · have hm := (if_neg h15).symm.trans hm
            refine eb_em (c := z3 ≤ (65536 - z4)) (fun h16 => ?_) (fun h16 => ?_)
            · have hm := (if_pos h16).symm.trans hm
              exact J_X10_create_119 hm hj_ (eb_q1 (show m_X10_isPower z2 32 16384 = true from by rw [← qz8]; exact eb_b_n0 h9) (show m_X10_isTold z1 z2 = true from by rw [← qz10]; exact eb_b_n0 h11) (show m_X10_in z4 0 z2 = true from by rw [← qz12]; exact eb_b_n0 h13) (Or.inr ⟨h15, h16⟩))
            · have hm := (if_neg h16).symm.trans hm
              subst hm
              exact hj_
      · have hm := (if_pos h13).symm.trans hm
        subst hm
        exact hj_
set_option maxHeartbeats 4000000 in
set_option maxRecDepth 100000 in
theorem k_X10_create_206 {p : Program} {l : Launch} {e : Env} {s : State} {m : MethodId} {args : Array Value} {below : List Frame} {meth : Method} {c : Code} {A : Nat → Prop} {D : va_G} {cy : Nat → ClassId} {ad : Nat → Nat} (X : eb_X p s m args meth c cX10_create 17 RX10 (Cond.code yX10_create cX10_create 17 (some .long) :: wsL_law) (some .long) D cy A)   : ∀ (n : Nat) (σ : eb_St) (v1 : Int64) (v3 : Int64) (v5 : Int64) (v7 : Int64) (v9 : Int64) (v11 : Int64) (v13 : Int64) (v15 : Int32) (v16 : Int32) (hj_ : rJ σ) (i0_ : rQ1 v1 v3 v5 v7) (i1_ : rQ2 v13) (i2_ : rQ3 v11 v13) (i3_ : v15 = -1 ∨ vp_in v15 6) (i4_ : v16.toInt ≤ 5) (hn : (v16.toInt + 1).toNat < n) {H : Heap} {locs : List Loc} {ls : Array Slot} {mm : Int64 × eb_St} (_ : (m_X10_create_206  n σ v1 v3 v5 v7 v9 v11 v13 v15 v16) = mm) (hw : eb_H D 18 cy rL ad A s.heap σ H locs) (hl : lv_has ls 17 [(0, .ref (ad 0)), (1, .long v1), (3, .long v3), (5, .long v5), (7, .long v7), (9, .long v9), (11, .long v11), (13, .long v13), (15, .int v15), (16, .int v16)]), W p l e ({ frames := 6, cells := 0, slots := 0, locals := 146 } : Room) s m args below meth c H locs 0 0 (MQ below (eb_Q D 18 cy rL ad A (some (.long mm.1)) mm.2) args s 0 0 A) (F0 m 206 ls []) := by
  have hx := X.1.1
  have hb := X.1.2.1
  have hown := X.1.2.2.2.1
  have hts := X.1.2.2.2.2
  intro n
  induction n with
  | zero => intro σ v1 v3 v5 v7 v9 v11 v13 v15 v16 hj_ i0_ i1_ i2_ i3_ i4_ hn; exact absurd hn (Nat.not_lt_zero _)
  | succ n ih =>
    intro σ v1 v3 v5 v7 v9 v11 v13 v15 v16 hj_ i0_ i1_ i2_ i3_ i4_ hn H locs ls mm hm hw hl
    have hm : (if v16 < 0 then (fun (z29 : Bool × eb_St) => (if (eb_b z29.1) = 0 then ((-4), z29.2) else (fun (z31 : Bool × eb_St) => (if (eb_b z31.1) = 0 then ((-4), z31.2) else (fun (z33 : Bool × eb_St) => (if (eb_b z33.1) = 0 then ((-4), z33.2) else (if v15 = (-1) then ((-3), z33.2) else (fun (z36 : eb_St) => (if v13 = 0 then (fun (z39 : eb_St) => (v15.toInt64, z39)) (m_X10_measured (eb_pI (eb_pI (eb_pI z36 9 v15.toNatClampNeg v9.toInt32) 10 v15.toNatClampNeg 0) 11 v15.toNatClampNeg v13.toInt32) v15 v7.toInt32) else (fun (z38 : eb_St) => (v15.toInt64, z38)) (m_X10_measured (eb_pI (eb_pI (eb_pI z36 9 v15.toNatClampNeg v9.toInt32) 10 v15.toNatClampNeg v11.toInt32) 11 v15.toNatClampNeg v13.toInt32) v15 v7.toInt32))) (m_X10_makes z33.2 v15 v1.toInt32 v3.toInt32 v5.toInt32 v7.toInt32)))) (m_X10_mayAll z31.2 v5 v7 1))) (m_X10_mayAll z29.2 v11 v13 3))) (m_X10_mayAll σ v1 v3 3) else (fun (z40 : Bool) => (if (eb_b z40) = 0 then (fun (x49 : Int32) => m_X10_create_206  n σ v1 v3 v5 v7 v9 v11 v13 v16 x49) (v16 + (-1)) else (fun (z42 : Bool) => (if (eb_b z42) = 0 then (fun (z44 : Bool) => (if (eb_b z44) = 0 then (fun (z46 : Bool) => (if (eb_b z46) = 0 then (fun (x48 : Int32) => m_X10_create_206  n σ v1 v3 v5 v7 v9 v11 v13 v15 x48) (v16 + (-1)) else ((-2), σ))) (m_X10_meet v11 v13 ((σ.1 7 v16.toNatClampNeg).toInt64) ((σ.1 8 v16.toNatClampNeg).toInt64)) else ((-2), σ))) (m_X10_meet v1 v3 ((σ.1 10 v16.toNatClampNeg).toInt64) ((σ.1 11 v16.toNatClampNeg).toInt64)) else ((-2), σ))) (m_X10_meet v1 v3 ((σ.1 7 v16.toNatClampNeg).toInt64) ((σ.1 8 v16.toNatClampNeg).toInt64)))) (m_X10_isLive σ v16)) = mm := hm
    refine lv_iload hx hb dX10_create_206 (lv_at hl 9 rfl) ?_
    refine lv_if_lt (tgt := 311) hx hb dX10_create_208 (by decide) (fun h28 => ?_) (fun h28 => ?_)
    · have hm := (if_pos h28).symm.trans hm
      refine lv_aload_n hx hb dX10_create_311 rfl (lv_at hl 0 rfl) ?_
      refine lv_lload_n hx hb dX10_create_312 rfl (lv_at hl 1 rfl) ?_
      refine lv_lload_n hx hb dX10_create_313 rfl (lv_at hl 2 rfl) ?_
      refine lv_iconst (v := 3) hx hb dX10_create_314 (by decide) ?_
      obtain ⟨z29, qz29⟩ : ∃ t : Bool × eb_St, t = m_X10_mayAll σ v1 v3 3 := ⟨_, rfl⟩
      have hm : (if (eb_b z29.1) = 0 then ((-4), z29.2) else (fun (z31 : Bool × eb_St) => (if (eb_b z31.1) = 0 then ((-4), z31.2) else (fun (z33 : Bool × eb_St) => (if (eb_b z33.1) = 0 then ((-4), z33.2) else (if v15 = (-1) then ((-3), z33.2) else (fun (z36 : eb_St) => (if v13 = 0 then (fun (z39 : eb_St) => (v15.toInt64, z39)) (m_X10_measured (eb_pI (eb_pI (eb_pI z36 9 v15.toNatClampNeg v9.toInt32) 10 v15.toNatClampNeg 0) 11 v15.toNatClampNeg v13.toInt32) v15 v7.toInt32) else (fun (z38 : eb_St) => (v15.toInt64, z38)) (m_X10_measured (eb_pI (eb_pI (eb_pI z36 9 v15.toNatClampNeg v9.toInt32) 10 v15.toNatClampNeg v11.toInt32) 11 v15.toNatClampNeg v13.toInt32) v15 v7.toInt32))) (m_X10_makes z33.2 v15 v1.toInt32 v3.toInt32 v5.toInt32 v7.toInt32)))) (m_X10_mayAll z31.2 v5 v7 1))) (m_X10_mayAll z29.2 v11 v13 3)) = mm := by rw [qz29]; exact hm
      have jz29 : rJ z29.2 := J_X10_mayAll qz29.symm hj_
      have hc : eb_M l yX10_mayAll (Cond.code yX10_mayAll cX10_mayAll 9 (some .boolean) :: wsL_law) 5 118 D 18 cy rL ad σ [.ref (ad 0), .long v1, .long v3, .int 3] (some (.int (eb_b z29.1))) z29.2 := by rw [qz29]; exact c_X10_mayAll l D cy ad σ v1 v3 3 hj_
      refine eb_callV (n := 3) (as := [.long v1, .long v3, .int 3]) (rest := []) X hw hl.1 0 hc (by decide) ⟨rfl, rfl, rfl⟩ (eb_goodV wi_37_21 wi_37_22 wi_37_23 wi_1_5 wi_38_0) rfl (by decide +kernel) ⟨by decide, by decide⟩ rfl rfl (Nat.le_of_ble_eq_true rfl) dX10_create_315 ⟨by decide, by decide⟩ (st' := [.int (eb_b z29.1)]) rfl (fun H locs hw => ?_)
      refine lv_if_eq (tgt := 345) hx hb dX10_create_318 (by decide) (fun h30 => ?_) (fun h30 => ?_)
      · have hm := (if_pos h30).symm.trans hm
        refine lv_ldc2 hx hb hown (hts _ (List.mem_cons_of_mem _ wi_36_7)) dX10_create_345 ?_
        subst hm
        exact eb_lret X hw rfl rfl rfl dX10_create_348
      · have hm := (if_neg h30).symm.trans hm
        refine lv_aload_n hx hb dX10_create_321 rfl (lv_at hl 0 rfl) ?_
        refine lv_lload hx hb dX10_create_322 (lv_at hl 6 rfl) ?_
        refine lv_lload hx hb dX10_create_324 (lv_at hl 7 rfl) ?_
        refine lv_iconst (v := 3) hx hb dX10_create_326 (by decide) ?_
        obtain ⟨z31, qz31⟩ : ∃ t : Bool × eb_St, t = m_X10_mayAll z29.2 v11 v13 3 := ⟨_, rfl⟩
        have hm : (if (eb_b z31.1) = 0 then ((-4), z31.2) else (fun (z33 : Bool × eb_St) => (if (eb_b z33.1) = 0 then ((-4), z33.2) else (if v15 = (-1) then ((-3), z33.2) else (fun (z36 : eb_St) => (if v13 = 0 then (fun (z39 : eb_St) => (v15.toInt64, z39)) (m_X10_measured (eb_pI (eb_pI (eb_pI z36 9 v15.toNatClampNeg v9.toInt32) 10 v15.toNatClampNeg 0) 11 v15.toNatClampNeg v13.toInt32) v15 v7.toInt32) else (fun (z38 : eb_St) => (v15.toInt64, z38)) (m_X10_measured (eb_pI (eb_pI (eb_pI z36 9 v15.toNatClampNeg v9.toInt32) 10 v15.toNatClampNeg v11.toInt32) 11 v15.toNatClampNeg v13.toInt32) v15 v7.toInt32))) (m_X10_makes z33.2 v15 v1.toInt32 v3.toInt32 v5.toInt32 v7.toInt32)))) (m_X10_mayAll z31.2 v5 v7 1)) = mm := by rw [qz31]; exact hm
        have jz31 : rJ z31.2 := J_X10_mayAll qz31.symm jz29
        have hc : eb_M l yX10_mayAll (Cond.code yX10_mayAll cX10_mayAll 9 (some .boolean) :: wsL_law) 5 118 D 18 cy rL ad z29.2 [.ref (ad 0), .long v11, .long v13, .int 3] (some (.int (eb_b z31.1))) z31.2 := by rw [qz31]; exact c_X10_mayAll l D cy ad z29.2 v11 v13 3 jz29
        refine eb_callV (n := 3) (as := [.long v11, .long v13, .int 3]) (rest := []) X hw hl.1 0 hc (by decide) ⟨rfl, rfl, rfl⟩ (eb_goodV wi_37_21 wi_37_22 wi_37_23 wi_1_5 wi_38_0) rfl (by decide +kernel) ⟨by decide, by decide⟩ rfl rfl (Nat.le_of_ble_eq_true rfl) dX10_create_327 ⟨by decide, by decide⟩ (st' := [.int (eb_b z31.1)]) rfl (fun H locs hw => ?_)
        refine lv_if_eq (tgt := 345) hx hb dX10_create_330 (by decide) (fun h32 => ?_) (fun h32 => ?_)
        · have hm := (if_pos h32).symm.trans hm
          refine lv_ldc2 hx hb hown (hts _ (List.mem_cons_of_mem _ wi_36_7)) dX10_create_345 ?_
          subst hm
          exact eb_lret X hw rfl rfl rfl dX10_create_348
        · have hm := (if_neg h32).symm.trans hm
          refine lv_aload_n hx hb dX10_create_333 rfl (lv_at hl 0 rfl) ?_
          refine lv_lload hx hb dX10_create_334 (lv_at hl 3 rfl) ?_
          refine lv_lload hx hb dX10_create_336 (lv_at hl 4 rfl) ?_
          refine lv_iconst (v := 1) hx hb dX10_create_338 (by decide) ?_
          obtain ⟨z33, qz33⟩ : ∃ t : Bool × eb_St, t = m_X10_mayAll z31.2 v5 v7 1 := ⟨_, rfl⟩
          have hm : (if (eb_b z33.1) = 0 then ((-4), z33.2) else (if v15 = (-1) then ((-3), z33.2) else (fun (z36 : eb_St) => (if v13 = 0 then (fun (z39 : eb_St) => (v15.toInt64, z39)) (m_X10_measured (eb_pI (eb_pI (eb_pI z36 9 v15.toNatClampNeg v9.toInt32) 10 v15.toNatClampNeg 0) 11 v15.toNatClampNeg v13.toInt32) v15 v7.toInt32) else (fun (z38 : eb_St) => (v15.toInt64, z38)) (m_X10_measured (eb_pI (eb_pI (eb_pI z36 9 v15.toNatClampNeg v9.toInt32) 10 v15.toNatClampNeg v11.toInt32) 11 v15.toNatClampNeg v13.toInt32) v15 v7.toInt32))) (m_X10_makes z33.2 v15 v1.toInt32 v3.toInt32 v5.toInt32 v7.toInt32))) = mm := by rw [qz33]; exact hm
          have jz33 : rJ z33.2 := J_X10_mayAll qz33.symm jz31
          have hc : eb_M l yX10_mayAll (Cond.code yX10_mayAll cX10_mayAll 9 (some .boolean) :: wsL_law) 5 118 D 18 cy rL ad z31.2 [.ref (ad 0), .long v5, .long v7, .int 1] (some (.int (eb_b z33.1))) z33.2 := by rw [qz33]; exact c_X10_mayAll l D cy ad z31.2 v5 v7 1 jz31
          refine eb_callV (n := 3) (as := [.long v5, .long v7, .int 1]) (rest := []) X hw hl.1 0 hc (by decide) ⟨rfl, rfl, rfl⟩ (eb_goodV wi_37_21 wi_37_22 wi_37_23 wi_1_5 wi_38_0) rfl (by decide +kernel) ⟨by decide, by decide⟩ rfl rfl (Nat.le_of_ble_eq_true rfl) dX10_create_339 ⟨by decide, by decide⟩ (st' := [.int (eb_b z33.1)]) rfl (fun H locs hw => ?_)
          refine lv_if_ne (tgt := 349) hx hb dX10_create_342 (by decide) (fun h34 => ?_) (fun h34 => ?_)
          · have hm := (if_neg h34).symm.trans hm
            refine lv_iload hx hb dX10_create_349 (lv_at hl 8 rfl) ?_
            refine lv_iconst (v := (-1)) hx hb dX10_create_351 (by decide) ?_
            refine lv_icmp_ne (tgt := 359) hx hb dX10_create_352 (by decide) (fun h35 => ?_) (fun h35 => ?_)
            · have hm := (if_neg h35).symm.trans hm
              refine lv_aload_n hx hb dX10_create_359 rfl (lv_at hl 0 rfl) ?_
              refine lv_iload hx hb dX10_create_360 (lv_at hl 8 rfl) ?_
              refine lv_lload_n hx hb dX10_create_362 rfl (lv_at hl 1 rfl) ?_
              refine lv_l2i (v := v1.toInt32) hx hb dX10_create_363 rfl ?_
              refine lv_lload_n hx hb dX10_create_364 rfl (lv_at hl 2 rfl) ?_
              refine lv_l2i (v := v3.toInt32) hx hb dX10_create_365 rfl ?_
              refine lv_lload hx hb dX10_create_366 (lv_at hl 3 rfl) ?_
              refine lv_l2i (v := v5.toInt32) hx hb dX10_create_368 rfl ?_
              refine lv_lload hx hb dX10_create_369 (lv_at hl 4 rfl) ?_
              refine lv_l2i (v := v7.toInt32) hx hb dX10_create_371 rfl ?_
              obtain ⟨z36, qz36⟩ : ∃ t : eb_St, t = m_X10_makes z33.2 v15 v1.toInt32 v3.toInt32 v5.toInt32 v7.toInt32 := ⟨_, rfl⟩
              have hm : (if v13 = 0 then (fun (z39 : eb_St) => (v15.toInt64, z39)) (m_X10_measured (eb_pI (eb_pI (eb_pI z36 9 v15.toNatClampNeg v9.toInt32) 10 v15.toNatClampNeg 0) 11 v15.toNatClampNeg v13.toInt32) v15 v7.toInt32) else (fun (z38 : eb_St) => (v15.toInt64, z38)) (m_X10_measured (eb_pI (eb_pI (eb_pI z36 9 v15.toNatClampNeg v9.toInt32) 10 v15.toNatClampNeg v11.toInt32) 11 v15.toNatClampNeg v13.toInt32) v15 v7.toInt32)) = mm := by rw [qz36]; exact hm
              have jz36 : rJ z36 := J_X10_makes qz36.symm jz33 (i3_.resolve_left h35) (eb_mk1 i0_) (eb_mk2 i0_) (eb_mk3 i0_)
              have hc : eb_M l yX10_makes (Cond.code yX10_makes cX10_makes 7 none :: wsL_law) 0 0 D 18 cy rL ad z33.2 [.ref (ad 0), .int v15, .int v1.toInt32, .int v3.toInt32, .int v5.toInt32, .int v7.toInt32] (none) z36 := by rw [qz36]; exact c_X10_makes l D cy ad z33.2 v15 v1.toInt32 v3.toInt32 v5.toInt32 v7.toInt32 jz33 (i3_.resolve_left h35) (eb_mk1 i0_) (eb_mk2 i0_) (eb_mk3 i0_)
              refine eb_callV (n := 5) (as := [.int v15, .int v1.toInt32, .int v3.toInt32, .int v5.toInt32, .int v7.toInt32]) (rest := []) X hw hl.1 0 hc (by decide) ⟨rfl, rfl, rfl⟩ (eb_goodV wi_38_1 wi_38_2 wi_38_3 wi_1_5 wi_38_4) rfl (by decide +kernel) ⟨by decide, by decide⟩ rfl rfl (Nat.le_of_ble_eq_true rfl) dX10_create_372 ⟨by decide, by decide⟩ (st' := []) rfl (fun H locs hw => ?_)
              refine lv_aload_n hx hb dX10_create_375 rfl (lv_at hl 0 rfl) ?_
              refine eb_get (T := TX10) X hw 0 25 (by decide) ⟨rfl, rfl, rfl⟩ (by decide) (fun _ h => List.mem_cons_of_mem _ (inlX10 _ h)) (List.mem_cons_of_mem _ wi_5_19) (v := .ref (ad 9)) rfl dX10_create_376 ?_
              refine lv_iload hx hb dX10_create_379 (lv_at hl 8 rfl) ?_
              refine lv_lload hx hb dX10_create_381 (lv_at hl 5 rfl) ?_
              refine lv_l2i (v := v9.toInt32) hx hb dX10_create_383 rfl ?_
              refine eb_iast (n := 6) X hw 9 (by decide) rfl rfl (i3_.resolve_left h35) dX10_create_384 (fun H locs hw => ?_)
              refine lv_aload_n hx hb dX10_create_385 rfl (lv_at hl 0 rfl) ?_
              refine eb_get (T := TX10) X hw 0 26 (by decide) ⟨rfl, rfl, rfl⟩ (by decide) (fun _ h => List.mem_cons_of_mem _ (inlX10 _ h)) (List.mem_cons_of_mem _ wi_5_20) (v := .ref (ad 10)) rfl dX10_create_386 ?_
              refine lv_iload hx hb dX10_create_389 (lv_at hl 8 rfl) ?_
              refine lv_lload hx hb dX10_create_391 (lv_at hl 7 rfl) ?_
              refine lv_lconst (v := 0) hx hb dX10_create_393 (by decide) ?_
              refine eb_lif_ne (tgt := 402) hx hb dX10_create_394 dX10_create_395 (by decide) (fun h37 => ?_) (fun h37 => ?_)
              · have hm := (if_neg h37).symm.trans hm
                refine lv_lload hx hb dX10_create_402 (lv_at hl 6 rfl) ?_
                refine lv_l2i (v := v11.toInt32) hx hb dX10_create_404 rfl ?_
                refine eb_iast (n := 6) X hw 10 (by decide) rfl rfl (i3_.resolve_left h35) dX10_create_405 (fun H locs hw => ?_)
                refine lv_aload_n hx hb dX10_create_406 rfl (lv_at hl 0 rfl) ?_
                refine eb_get (T := TX10) X hw 0 27 (by decide) ⟨rfl, rfl, rfl⟩ (by decide) (fun _ h => List.mem_cons_of_mem _ (inlX10 _ h)) (List.mem_cons_of_mem _ wi_5_21) (v := .ref (ad 11)) rfl dX10_create_407 ?_
                refine lv_iload hx hb dX10_create_410 (lv_at hl 8 rfl) ?_
                refine lv_lload hx hb dX10_create_412 (lv_at hl 7 rfl) ?_
                refine lv_l2i (v := v13.toInt32) hx hb dX10_create_414 rfl ?_
                refine eb_iast (n := 6) X hw 11 (by decide) rfl rfl (i3_.resolve_left h35) dX10_create_415 (fun H locs hw => ?_)
                refine lv_aload_n hx hb dX10_create_416 rfl (lv_at hl 0 rfl) ?_
                refine lv_iload hx hb dX10_create_417 (lv_at hl 8 rfl) ?_
                refine lv_lload hx hb dX10_create_419 (lv_at hl 4 rfl) ?_
                refine lv_l2i (v := v7.toInt32) hx hb dX10_create_421 rfl ?_
                obtain ⟨z38, qz38⟩ : ∃ t : eb_St, t = m_X10_measured (eb_pI (eb_pI (eb_pI z36 9 v15.toNatClampNeg v9.toInt32) 10 v15.toNatClampNeg v11.toInt32) 11 v15.toNatClampNeg v13.toInt32) v15 v7.toInt32 := ⟨_, rfl⟩
                have hm : (v15.toInt64, z38) = mm := by rw [qz38]; exact hm
                have jz38 : rJ z38 := J_X10_measured qz38.symm (show rJ (eb_pI (eb_pI (eb_pI z36 9 v15.toNatClampNeg v9.toInt32) 10 v15.toNatClampNeg v11.toInt32) 11 v15.toNatClampNeg v13.toInt32) from rJ_ss (show rJ (eb_pI (eb_pI z36 9 v15.toNatClampNeg v9.toInt32) 10 v15.toNatClampNeg v11.toInt32) from rJ_sh jz36 (eb_mk4 i1_ i2_ h37)) (eb_mk5 i1_)) (i3_.resolve_left h35) (eb_mk2 i0_).2
                have hc : eb_M l yX10_measured (Cond.code yX10_measured cX10_measured 8 none :: wsL_law) 0 0 D 18 cy rL ad (eb_pI (eb_pI (eb_pI z36 9 v15.toNatClampNeg v9.toInt32) 10 v15.toNatClampNeg v11.toInt32) 11 v15.toNatClampNeg v13.toInt32) [.ref (ad 0), .int v15, .int v7.toInt32] (none) z38 := by rw [qz38]; exact c_X10_measured l D cy ad (eb_pI (eb_pI (eb_pI z36 9 v15.toNatClampNeg v9.toInt32) 10 v15.toNatClampNeg v11.toInt32) 11 v15.toNatClampNeg v13.toInt32) v15 v7.toInt32 (show rJ (eb_pI (eb_pI (eb_pI z36 9 v15.toNatClampNeg v9.toInt32) 10 v15.toNatClampNeg v11.toInt32) 11 v15.toNatClampNeg v13.toInt32) from rJ_ss (show rJ (eb_pI (eb_pI z36 9 v15.toNatClampNeg v9.toInt32) 10 v15.toNatClampNeg v11.toInt32) from rJ_sh jz36 (eb_mk4 i1_ i2_ h37)) (eb_mk5 i1_)) (i3_.resolve_left h35) (eb_mk2 i0_).2
                refine eb_callV (n := 2) (as := [.int v15, .int v7.toInt32]) (rest := []) X hw hl.1 0 hc (by decide) ⟨rfl, rfl, rfl⟩ (eb_goodV wi_38_5 wi_38_6 wi_38_7 wi_1_5 wi_38_8) rfl (by decide +kernel) ⟨by decide, by decide⟩ rfl rfl (Nat.le_of_ble_eq_true rfl) dX10_create_422 ⟨by decide, by decide⟩ (st' := []) rfl (fun H locs hw => ?_)
                refine lv_iload hx hb dX10_create_425 (lv_at hl 8 rfl) ?_
                refine lv_i2l (v := v15.toInt64) hx hb dX10_create_427 rfl ?_
                subst hm
                exact eb_lret X hw rfl rfl rfl dX10_create_428
              · have hm := (if_pos h37).symm.trans hm
                refine lv_iconst (v := 0) hx hb dX10_create_398 (by decide) ?_
                refine lv_goto (tgt := 405) hx hb dX10_create_399 (by decide) ?_
                refine eb_iast (n := 6) X hw 10 (by decide) rfl rfl (i3_.resolve_left h35) dX10_create_405 (fun H locs hw => ?_)
                refine lv_aload_n hx hb dX10_create_406 rfl (lv_at hl 0 rfl) ?_
                refine eb_get (T := TX10) X hw 0 27 (by decide) ⟨rfl, rfl, rfl⟩ (by decide) (fun _ h => List.mem_cons_of_mem _ (inlX10 _ h)) (List.mem_cons_of_mem _ wi_5_21) (v := .ref (ad 11)) rfl dX10_create_407 ?_
                refine lv_iload hx hb dX10_create_410 (lv_at hl 8 rfl) ?_
                refine lv_lload hx hb dX10_create_412 (lv_at hl 7 rfl) ?_
                refine lv_l2i (v := v13.toInt32) hx hb dX10_create_414 rfl ?_
                refine eb_iast (n := 6) X hw 11 (by decide) rfl rfl (i3_.resolve_left h35) dX10_create_415 (fun H locs hw => ?_)
                refine lv_aload_n hx hb dX10_create_416 rfl (lv_at hl 0 rfl) ?_
                refine lv_iload hx hb dX10_create_417 (lv_at hl 8 rfl) ?_
                refine lv_lload hx hb dX10_create_419 (lv_at hl 4 rfl) ?_
                refine lv_l2i (v := v7.toInt32) hx hb dX10_create_421 rfl ?_
                obtain ⟨z39, qz39⟩ : ∃ t : eb_St, t = m_X10_measured (eb_pI (eb_pI (eb_pI z36 9 v15.toNatClampNeg v9.toInt32) 10 v15.toNatClampNeg 0) 11 v15.toNatClampNeg v13.toInt32) v15 v7.toInt32 := ⟨_, rfl⟩
                have hm : (v15.toInt64, z39) = mm := by rw [qz39]; exact hm
                have jz39 : rJ z39 := J_X10_measured qz39.symm (show rJ (eb_pI (eb_pI (eb_pI z36 9 v15.toNatClampNeg v9.toInt32) 10 v15.toNatClampNeg 0) 11 v15.toNatClampNeg v13.toInt32) from rJ_ss (show rJ (eb_pI (eb_pI z36 9 v15.toNatClampNeg v9.toInt32) 10 v15.toNatClampNeg 0) from rJ_sh jz36 (by decide)) (eb_mk5 i1_)) (i3_.resolve_left h35) (eb_mk2 i0_).2
                have hc : eb_M l yX10_measured (Cond.code yX10_measured cX10_measured 8 none :: wsL_law) 0 0 D 18 cy rL ad (eb_pI (eb_pI (eb_pI z36 9 v15.toNatClampNeg v9.toInt32) 10 v15.toNatClampNeg 0) 11 v15.toNatClampNeg v13.toInt32) [.ref (ad 0), .int v15, .int v7.toInt32] (none) z39 := by rw [qz39]; exact c_X10_measured l D cy ad (eb_pI (eb_pI (eb_pI z36 9 v15.toNatClampNeg v9.toInt32) 10 v15.toNatClampNeg 0) 11 v15.toNatClampNeg v13.toInt32) v15 v7.toInt32 (show rJ (eb_pI (eb_pI (eb_pI z36 9 v15.toNatClampNeg v9.toInt32) 10 v15.toNatClampNeg 0) 11 v15.toNatClampNeg v13.toInt32) from rJ_ss (show rJ (eb_pI (eb_pI z36 9 v15.toNatClampNeg v9.toInt32) 10 v15.toNatClampNeg 0) from rJ_sh jz36 (by decide)) (eb_mk5 i1_)) (i3_.resolve_left h35) (eb_mk2 i0_).2
                refine eb_callV (n := 2) (as := [.int v15, .int v7.toInt32]) (rest := []) X hw hl.1 0 hc (by decide) ⟨rfl, rfl, rfl⟩ (eb_goodV wi_38_5 wi_38_6 wi_38_7 wi_1_5 wi_38_8) rfl (by decide +kernel) ⟨by decide, by decide⟩ rfl rfl (Nat.le_of_ble_eq_true rfl) dX10_create_422 ⟨by decide, by decide⟩ (st' := []) rfl (fun H locs hw => ?_)
                refine lv_iload hx hb dX10_create_425 (lv_at hl 8 rfl) ?_
                refine lv_i2l (v := v15.toInt64) hx hb dX10_create_427 rfl ?_
                subst hm
                exact eb_lret X hw rfl rfl rfl dX10_create_428
            · have hm := (if_pos h35).symm.trans hm
              refine lv_ldc2 hx hb hown (hts _ (List.mem_cons_of_mem _ wi_37_11)) dX10_create_355 ?_
              subst hm
              exact eb_lret X hw rfl rfl rfl dX10_create_358
          · have hm := (if_pos h34).symm.trans hm
            refine lv_ldc2 hx hb hown (hts _ (List.mem_cons_of_mem _ wi_36_7)) dX10_create_345 ?_
            subst hm
            exact eb_lret X hw rfl rfl rfl dX10_create_348
    · have hm := (if_neg h28).symm.trans hm
      refine lv_aload_n hx hb dX10_create_211 rfl (lv_at hl 0 rfl) ?_
      refine lv_iload hx hb dX10_create_212 (lv_at hl 9 rfl) ?_
      obtain ⟨z40, qz40⟩ : ∃ t : Bool, t = m_X10_isLive σ v16 := ⟨_, rfl⟩
      have hm : (if (eb_b z40) = 0 then (fun (x49 : Int32) => m_X10_create_206  n σ v1 v3 v5 v7 v9 v11 v13 v16 x49) (v16 + (-1)) else (fun (z42 : Bool) => (if (eb_b z42) = 0 then (fun (z44 : Bool) => (if (eb_b z44) = 0 then (fun (z46 : Bool) => (if (eb_b z46) = 0 then (fun (x48 : Int32) => m_X10_create_206  n σ v1 v3 v5 v7 v9 v11 v13 v15 x48) (v16 + (-1)) else ((-2), σ))) (m_X10_meet v11 v13 ((σ.1 7 v16.toNatClampNeg).toInt64) ((σ.1 8 v16.toNatClampNeg).toInt64)) else ((-2), σ))) (m_X10_meet v1 v3 ((σ.1 10 v16.toNatClampNeg).toInt64) ((σ.1 11 v16.toNatClampNeg).toInt64)) else ((-2), σ))) (m_X10_meet v1 v3 ((σ.1 7 v16.toNatClampNeg).toInt64) ((σ.1 8 v16.toNatClampNeg).toInt64))) = mm := by rw [qz40]; exact hm
      have hc : eb_M l yX10_isLive (Cond.code yX10_isLive cX10_isLive 2 (some .boolean) :: wsL_law) 0 0 D 18 cy rL ad σ [.ref (ad 0), .int v16] (some (.int (eb_b z40))) σ := by rw [qz40]; exact c_X10_isLive l D cy ad σ v16 (vp_in_iff.mpr ⟨eb_nn (eb_nlt h28), by have := i4_; omega⟩)
      refine eb_callV (n := 1) (as := [.int v16]) (rest := []) X hw hl.1 0 hc (by decide) ⟨rfl, rfl, rfl⟩ (eb_goodV wi_9_22 wi_9_23 wi_10_0 wi_1_5 wi_10_1) rfl (by decide +kernel) ⟨by decide, by decide⟩ rfl rfl (Nat.le_of_ble_eq_true rfl) dX10_create_214 ⟨by decide, by decide⟩ (st' := [.int (eb_b z40)]) rfl (fun H locs hw => ?_)
      refine lv_if_ne (tgt := 227) hx hb dX10_create_217 (by decide) (fun h41 => ?_) (fun h41 => ?_)
      · have hm := (if_neg h41).symm.trans hm
        refine lv_lload_n hx hb dX10_create_227 rfl (lv_at hl 1 rfl) ?_
        refine lv_lload_n hx hb dX10_create_228 rfl (lv_at hl 2 rfl) ?_
        refine lv_aload_n hx hb dX10_create_229 rfl (lv_at hl 0 rfl) ?_
        refine eb_get (T := TX10) X hw 0 23 (by decide) ⟨rfl, rfl, rfl⟩ (by decide) (fun _ h => List.mem_cons_of_mem _ (inlX10 _ h)) (List.mem_cons_of_mem _ wi_5_17) (v := .ref (ad 7)) rfl dX10_create_230 ?_
        refine lv_iload hx hb dX10_create_233 (lv_at hl 9 rfl) ?_
        refine eb_iald (n := 6) X hw 7 (by decide) rfl rfl (vp_in_iff.mpr ⟨eb_nn (eb_nlt h28), by have := i4_; omega⟩) dX10_create_235 ?_
        refine lv_i2l (v := (σ.1 7 v16.toNatClampNeg).toInt64) hx hb dX10_create_236 rfl ?_
        refine lv_aload_n hx hb dX10_create_237 rfl (lv_at hl 0 rfl) ?_
        refine eb_get (T := TX10) X hw 0 24 (by decide) ⟨rfl, rfl, rfl⟩ (by decide) (fun _ h => List.mem_cons_of_mem _ (inlX10 _ h)) (List.mem_cons_of_mem _ wi_5_18) (v := .ref (ad 8)) rfl dX10_create_238 ?_
        refine lv_iload hx hb dX10_create_241 (lv_at hl 9 rfl) ?_
        refine eb_iald (n := 6) X hw 8 (by decide) rfl rfl (vp_in_iff.mpr ⟨eb_nn (eb_nlt h28), by have := i4_; omega⟩) dX10_create_243 ?_
        refine lv_i2l (v := (σ.1 8 v16.toNatClampNeg).toInt64) hx hb dX10_create_244 rfl ?_
        obtain ⟨z42, qz42⟩ : ∃ t : Bool, t = m_X10_meet v1 v3 ((σ.1 7 v16.toNatClampNeg).toInt64) ((σ.1 8 v16.toNatClampNeg).toInt64) := ⟨_, rfl⟩
        have hm : (if (eb_b z42) = 0 then (fun (z44 : Bool) => (if (eb_b z44) = 0 then (fun (z46 : Bool) => (if (eb_b z46) = 0 then (fun (x48 : Int32) => m_X10_create_206  n σ v1 v3 v5 v7 v9 v11 v13 v15 x48) (v16 + (-1)) else ((-2), σ))) (m_X10_meet v11 v13 ((σ.1 7 v16.toNatClampNeg).toInt64) ((σ.1 8 v16.toNatClampNeg).toInt64)) else ((-2), σ))) (m_X10_meet v1 v3 ((σ.1 10 v16.toNatClampNeg).toInt64) ((σ.1 11 v16.toNatClampNeg).toInt64)) else ((-2), σ)) = mm := by rw [qz42]; exact hm
        have hc : eb_M l yX10_meet (Cond.code yX10_meet cX10_meet 8 (some .boolean) :: wsL_law) 0 0 D 18 cy rL ad σ [.long v1, .long v3, .long ((σ.1 7 v16.toNatClampNeg).toInt64), .long ((σ.1 8 v16.toNatClampNeg).toInt64)] (some (.int (eb_b z42))) σ := by rw [qz42]; exact c_X10_meet l D cy ad σ v1 v3 ((σ.1 7 v16.toNatClampNeg).toInt64) ((σ.1 8 v16.toNatClampNeg).toInt64)
        refine eb_callS (n := 4) X hw hl.1 (rest := []) hc (eb_goodS wi_37_18 wi_37_19 wi_1_5 wi_37_20) rfl (by decide +kernel) ⟨by decide, by decide⟩ rfl rfl (Nat.le_of_ble_eq_true rfl) dX10_create_245 ⟨by decide, by decide⟩ (st' := [.int (eb_b z42)]) rfl (fun H locs hw => ?_)
        refine lv_if_ne (tgt := 301) hx hb dX10_create_248 (by decide) (fun h43 => ?_) (fun h43 => ?_)
        · have hm := (if_neg h43).symm.trans hm
          refine lv_ldc2 hx hb hown (hts _ (List.mem_cons_of_mem _ wi_30_15)) dX10_create_301 ?_
          subst hm
          exact eb_lret X hw rfl rfl rfl dX10_create_304
        · have hm := (if_pos h43).symm.trans hm
          refine lv_lload_n hx hb dX10_create_251 rfl (lv_at hl 1 rfl) ?_
          refine lv_lload_n hx hb dX10_create_252 rfl (lv_at hl 2 rfl) ?_
          refine lv_aload_n hx hb dX10_create_253 rfl (lv_at hl 0 rfl) ?_
          refine eb_get (T := TX10) X hw 0 26 (by decide) ⟨rfl, rfl, rfl⟩ (by decide) (fun _ h => List.mem_cons_of_mem _ (inlX10 _ h)) (List.mem_cons_of_mem _ wi_5_20) (v := .ref (ad 10)) rfl dX10_create_254 ?_
          refine lv_iload hx hb dX10_create_257 (lv_at hl 9 rfl) ?_
          refine eb_iald (n := 6) X hw 10 (by decide) rfl rfl (vp_in_iff.mpr ⟨eb_nn (eb_nlt h28), by have := i4_; omega⟩) dX10_create_259 ?_
          refine lv_i2l (v := (σ.1 10 v16.toNatClampNeg).toInt64) hx hb dX10_create_260 rfl ?_
          refine lv_aload_n hx hb dX10_create_261 rfl (lv_at hl 0 rfl) ?_
          refine eb_get (T := TX10) X hw 0 27 (by decide) ⟨rfl, rfl, rfl⟩ (by decide) (fun _ h => List.mem_cons_of_mem _ (inlX10 _ h)) (List.mem_cons_of_mem _ wi_5_21) (v := .ref (ad 11)) rfl dX10_create_262 ?_
          refine lv_iload hx hb dX10_create_265 (lv_at hl 9 rfl) ?_
          refine eb_iald (n := 6) X hw 11 (by decide) rfl rfl (vp_in_iff.mpr ⟨eb_nn (eb_nlt h28), by have := i4_; omega⟩) dX10_create_267 ?_
          refine lv_i2l (v := (σ.1 11 v16.toNatClampNeg).toInt64) hx hb dX10_create_268 rfl ?_
          obtain ⟨z44, qz44⟩ : ∃ t : Bool, t = m_X10_meet v1 v3 ((σ.1 10 v16.toNatClampNeg).toInt64) ((σ.1 11 v16.toNatClampNeg).toInt64) := ⟨_, rfl⟩
          have hm : (if (eb_b z44) = 0 then (fun (z46 : Bool) => (if (eb_b z46) = 0 then (fun (x48 : Int32) => m_X10_create_206  n σ v1 v3 v5 v7 v9 v11 v13 v15 x48) (v16 + (-1)) else ((-2), σ))) (m_X10_meet v11 v13 ((σ.1 7 v16.toNatClampNeg).toInt64) ((σ.1 8 v16.toNatClampNeg).toInt64)) else ((-2), σ)) = mm := by rw [qz44]; exact hm
          have hc : eb_M l yX10_meet (Cond.code yX10_meet cX10_meet 8 (some .boolean) :: wsL_law) 0 0 D 18 cy rL ad σ [.long v1, .long v3, .long ((σ.1 10 v16.toNatClampNeg).toInt64), .long ((σ.1 11 v16.toNatClampNeg).toInt64)] (some (.int (eb_b z44))) σ := by rw [qz44]; exact c_X10_meet l D cy ad σ v1 v3 ((σ.1 10 v16.toNatClampNeg).toInt64) ((σ.1 11 v16.toNatClampNeg).toInt64)
          refine eb_callS (n := 4) X hw hl.1 (rest := []) hc (eb_goodS wi_37_18 wi_37_19 wi_1_5 wi_37_20) rfl (by decide +kernel) ⟨by decide, by decide⟩ rfl rfl (Nat.le_of_ble_eq_true rfl) dX10_create_269 ⟨by decide, by decide⟩ (st' := [.int (eb_b z44)]) rfl (fun H locs hw => ?_)
          refine lv_if_ne (tgt := 301) hx hb dX10_create_272 (by decide) (fun h45 => ?_) (fun h45 => ?_)
          · have hm := (if_neg h45).symm.trans hm
            refine lv_ldc2 hx hb hown (hts _ (List.mem_cons_of_mem _ wi_30_15)) dX10_create_301 ?_
            subst hm
            exact eb_lret X hw rfl rfl rfl dX10_create_304
          · have hm := (if_pos h45).symm.trans hm
            refine lv_lload hx hb dX10_create_275 (lv_at hl 6 rfl) ?_
            refine lv_lload hx hb dX10_create_277 (lv_at hl 7 rfl) ?_
            refine lv_aload_n hx hb dX10_create_279 rfl (lv_at hl 0 rfl) ?_
            refine eb_get (T := TX10) X hw 0 23 (by decide) ⟨rfl, rfl, rfl⟩ (by decide) (fun _ h => List.mem_cons_of_mem _ (inlX10 _ h)) (List.mem_cons_of_mem _ wi_5_17) (v := .ref (ad 7)) rfl dX10_create_280 ?_
            refine lv_iload hx hb dX10_create_283 (lv_at hl 9 rfl) ?_
            refine eb_iald (n := 6) X hw 7 (by decide) rfl rfl (vp_in_iff.mpr ⟨eb_nn (eb_nlt h28), by have := i4_; omega⟩) dX10_create_285 ?_
            refine lv_i2l (v := (σ.1 7 v16.toNatClampNeg).toInt64) hx hb dX10_create_286 rfl ?_
            refine lv_aload_n hx hb dX10_create_287 rfl (lv_at hl 0 rfl) ?_
            refine eb_get (T := TX10) X hw 0 24 (by decide) ⟨rfl, rfl, rfl⟩ (by decide) (fun _ h => List.mem_cons_of_mem _ (inlX10 _ h)) (List.mem_cons_of_mem _ wi_5_18) (v := .ref (ad 8)) rfl dX10_create_288 ?_
            refine lv_iload hx hb dX10_create_291 (lv_at hl 9 rfl) ?_
            refine eb_iald (n := 6) X hw 8 (by decide) rfl rfl (vp_in_iff.mpr ⟨eb_nn (eb_nlt h28), by have := i4_; omega⟩) dX10_create_293 ?_
            refine lv_i2l (v := (σ.1 8 v16.toNatClampNeg).toInt64) hx hb dX10_create_294 rfl ?_
            obtain ⟨z46, qz46⟩ : ∃ t : Bool, t = m_X10_meet v11 v13 ((σ.1 7 v16.toNatClampNeg).toInt64) ((σ.1 8 v16.toNatClampNeg).toInt64) := ⟨_, rfl⟩
            have hm : (if (eb_b z46) = 0 then (fun (x48 : Int32) => m_X10_create_206  n σ v1 v3 v5 v7 v9 v11 v13 v15 x48) (v16 + (-1)) else ((-2), σ)) = mm := by rw [qz46]; exact hm
            have hc : eb_M l yX10_meet (Cond.code yX10_meet cX10_meet 8 (some .boolean) :: wsL_law) 0 0 D 18 cy rL ad σ [.long v11, .long v13, .long ((σ.1 7 v16.toNatClampNeg).toInt64), .long ((σ.1 8 v16.toNatClampNeg).toInt64)] (some (.int (eb_b z46))) σ := by rw [qz46]; exact c_X10_meet l D cy ad σ v11 v13 ((σ.1 7 v16.toNatClampNeg).toInt64) ((σ.1 8 v16.toNatClampNeg).toInt64)
            refine eb_callS (n := 4) X hw hl.1 (rest := []) hc (eb_goodS wi_37_18 wi_37_19 wi_1_5 wi_37_20) rfl (by decide +kernel) ⟨by decide, by decide⟩ rfl rfl (Nat.le_of_ble_eq_true rfl) dX10_create_295 ⟨by decide, by decide⟩ (st' := [.int (eb_b z46)]) rfl (fun H locs hw => ?_)
            refine lv_if_eq (tgt := 305) hx hb dX10_create_298 (by decide) (fun h47 => ?_) (fun h47 => ?_)
            · have hm := (if_pos h47).symm.trans hm
              obtain ⟨x48, ex48⟩ : ∃ z : Int32, z = v16 + (-1) := ⟨_, rfl⟩
              have hm : m_X10_create_206  n σ v1 v3 v5 v7 v9 v11 v13 v15 x48 = mm := by rw [ex48]; exact hm
              refine lv_iinc (v := x48) (lv' := [(16, .int x48), (0, .ref (ad 0)), (1, .long v1), (3, .long v3), (5, .long v5), (7, .long v7), (9, .long v9), (11, .long v11), (13, .long v13), (15, .int v15)]) hx hb dX10_create_305 hl (k := 9) rfl (by rw [ex48]; exact congrArg (v16 + ·) (by decide)) (by decide) rfl (fun ls hl => ?_)
              refine lv_goto (tgt := 206) hx hb dX10_create_308 (by decide) ?_
              exact ih σ v1 v3 v5 v7 v9 v11 v13 v15 x48 hj_ i0_ i1_ i2_ i3_ (by have q := (eb_dn (eb_nlt h28) ex48 hn).2.2; omega) (eb_dn (eb_nlt h28) ex48 hn).2.1 hm hw (lv_sub hl [1, 2, 3, 4, 5, 6, 7, 8, 9, 0] rfl)
            · have hm := (if_neg h47).symm.trans hm
              refine lv_ldc2 hx hb hown (hts _ (List.mem_cons_of_mem _ wi_30_15)) dX10_create_301 ?_
              subst hm
              exact eb_lret X hw rfl rfl rfl dX10_create_304
      · have hm := (if_pos h41).symm.trans hm
        refine lv_iload hx hb dX10_create_220 (lv_at hl 9 rfl) ?_
        refine lv_istore (lv' := [(15, .int v16), (0, .ref (ad 0)), (1, .long v1), (3, .long v3), (5, .long v5), (7, .long v7), (9, .long v9), (11, .long v11), (13, .long v13), (16, .int v16)]) hx hb dX10_create_222 hl (by decide) rfl (fun ls hl => ?_)
        refine lv_goto (tgt := 305) hx hb dX10_create_224 (by decide) ?_
        obtain ⟨x49, ex49⟩ : ∃ z : Int32, z = v16 + (-1) := ⟨_, rfl⟩
        have hm : m_X10_create_206  n σ v1 v3 v5 v7 v9 v11 v13 v16 x49 = mm := by rw [ex49]; exact hm
        refine lv_iinc (v := x49) (lv' := [(16, .int x49), (15, .int v16), (0, .ref (ad 0)), (1, .long v1), (3, .long v3), (5, .long v5), (7, .long v7), (9, .long v9), (11, .long v11), (13, .long v13)]) hx hb dX10_create_305 hl (k := 9) rfl (by rw [ex49]; exact congrArg (v16 + ·) (by decide)) (by decide) rfl (fun ls hl => ?_)
        refine lv_goto (tgt := 206) hx hb dX10_create_308 (by decide) ?_
        exact ih σ v1 v3 v5 v7 v9 v11 v13 v16 x49 hj_ i0_ i1_ i2_ (Or.inr (vp_in_iff.mpr ⟨eb_nn (eb_nlt h28), by have := i4_; omega⟩)) (by have q := (eb_dn (eb_nlt h28) ex49 hn).2.2; omega) (eb_dn (eb_nlt h28) ex49 hn).2.1 hm hw (lv_sub hl [2, 3, 4, 5, 6, 7, 8, 9, 1, 0] rfl)
set_option maxHeartbeats 4000000 in
set_option maxRecDepth 100000 in
theorem k_X10_create_200 {p : Program} {l : Launch} {e : Env} {s : State} {m : MethodId} {args : Array Value} {below : List Frame} {meth : Method} {c : Code} {A : Nat → Prop} {H : Heap} {locs : List Loc} {ls : Array Slot} {D : va_G} {cy : Nat → ClassId} {ad : Nat → Nat} (X : eb_X p s m args meth c cX10_create 17 RX10 (Cond.code yX10_create cX10_create 17 (some .long) :: wsL_law) (some .long) D cy A)   (σ : eb_St) (v1 : Int64) (v3 : Int64) (v5 : Int64) (v7 : Int64) (v9 : Int64) (v11 : Int64) (v13 : Int64) (hj_ : rJ σ) (h1_ : rQ1 v1 v3 v5 v7) (h2_ : rQ2 v13) (h3_ : rQ3 v11 v13) {mm : Int64 × eb_St} (hm : (m_X10_create_200  σ v1 v3 v5 v7 v9 v11 v13) = mm) (hw : eb_H D 18 cy rL ad A s.heap σ H locs) (hl : lv_has ls 17 [(0, .ref (ad 0)), (1, .long v1), (3, .long v3), (5, .long v5), (7, .long v7), (9, .long v9), (11, .long v11), (13, .long v13)]) : W p l e ({ frames := 6, cells := 0, slots := 0, locals := 146 } : Room) s m args below meth c H locs 0 0 (MQ below (eb_Q D 18 cy rL ad A (some (.long mm.1)) mm.2) args s 0 0 A) (F0 m 200 ls []) := by
  have hx := X.1.1
  have hb := X.1.2.1
  have hown := X.1.2.2.2.1
  have hts := X.1.2.2.2.2
  have hm : m_X10_create_206  7 σ v1 v3 v5 v7 v9 v11 v13 (-1) 5 = mm := hm
  refine lv_iconst (v := (-1)) hx hb dX10_create_200 (by decide) ?_
  refine lv_istore (lv' := [(15, .int (-1)), (0, .ref (ad 0)), (1, .long v1), (3, .long v3), (5, .long v5), (7, .long v7), (9, .long v9), (11, .long v11), (13, .long v13)]) hx hb dX10_create_201 hl (by decide) rfl (fun ls hl => ?_)
  refine lv_iconst (v := 5) hx hb dX10_create_203 (by decide) ?_
  refine lv_istore (lv' := [(16, .int 5), (15, .int (-1)), (0, .ref (ad 0)), (1, .long v1), (3, .long v3), (5, .long v5), (7, .long v7), (9, .long v9), (11, .long v11), (13, .long v13)]) hx hb dX10_create_204 hl (by decide) rfl (fun ls hl => ?_)
  exact k_X10_create_206 X   7 σ v1 v3 v5 v7 v9 v11 v13 (-1) 5 hj_ h1_ h2_ h3_ (Or.inl rfl) (by decide) (by decide) hm hw (lv_sub hl [2, 3, 4, 5, 6, 7, 8, 9, 1, 0] rfl)
set_option maxHeartbeats 4000000 in
set_option maxRecDepth 100000 in
theorem k_X10_create_167 {p : Program} {l : Launch} {e : Env} {s : State} {m : MethodId} {args : Array Value} {below : List Frame} {meth : Method} {c : Code} {A : Nat → Prop} {H : Heap} {locs : List Loc} {ls : Array Slot} {D : va_G} {cy : Nat → ClassId} {ad : Nat → Nat} (X : eb_X p s m args meth c cX10_create 17 RX10 (Cond.code yX10_create cX10_create 17 (some .long) :: wsL_law) (some .long) D cy A)   (σ : eb_St) (v1 : Int64) (v3 : Int64) (v5 : Int64) (v7 : Int64) (v9 : Int64) (v11 : Int64) (v13 : Int64) (hj_ : rJ σ) (h1_ : rQ1 v1 v3 v5 v7) (h2_ : rQ2 v13) {mm : Int64 × eb_St} (hm : (m_X10_create_167  σ v1 v3 v5 v7 v9 v11 v13) = mm) (hw : eb_H D 18 cy rL ad A s.heap σ H locs) (hl : lv_has ls 17 [(0, .ref (ad 0)), (1, .long v1), (3, .long v3), (5, .long v5), (7, .long v7), (9, .long v9), (11, .long v11), (13, .long v13)]) : W p l e ({ frames := 6, cells := 0, slots := 0, locals := 146 } : Room) s m args below meth c H locs 0 0 (MQ below (eb_Q D 18 cy rL ad A (some (.long mm.1)) mm.2) args s 0 0 A) (F0 m 167 ls []) := by
  have hx := X.1.1
  have hb := X.1.2.1
  have hown := X.1.2.2.2.1
  have hts := X.1.2.2.2.2
  have hm : (if v13 = 0 then m_X10_create_200  σ v1 v3 v5 v7 v9 v11 v13 else (fun (z24 : Bool) => (if (eb_b z24) = 0 then ((-1), σ) else (fun (z26 : Bool) => (if (eb_b z26) = 0 then m_X10_create_200  σ v1 v3 v5 v7 v9 v11 v13 else ((-1), σ))) (m_X10_meet v1 v3 v11 v13))) (m_X10_isTold v11 v13)) = mm := hm
  refine lv_lload hx hb dX10_create_167 (lv_at hl 7 rfl) ?_
  refine lv_lconst (v := 0) hx hb dX10_create_169 (by decide) ?_
  refine eb_lif_eq (tgt := 200) hx hb dX10_create_170 dX10_create_171 (by decide) (fun h23 => ?_) (fun h23 => ?_)
  · have hm := (if_pos h23).symm.trans hm
    exact k_X10_create_200 X   σ v1 v3 v5 v7 v9 v11 v13 hj_ h1_ h2_ (Or.inl (eb_z0 h23)) hm hw (lv_sub hl [0, 1, 2, 3, 4, 5, 6, 7] rfl)
  · have hm := (if_neg h23).symm.trans hm
    refine lv_lload hx hb dX10_create_174 (lv_at hl 6 rfl) ?_
    refine lv_lload hx hb dX10_create_176 (lv_at hl 7 rfl) ?_
    obtain ⟨z24, qz24⟩ : ∃ t : Bool, t = m_X10_isTold v11 v13 := ⟨_, rfl⟩
    have hm : (if (eb_b z24) = 0 then ((-1), σ) else (fun (z26 : Bool) => (if (eb_b z26) = 0 then m_X10_create_200  σ v1 v3 v5 v7 v9 v11 v13 else ((-1), σ))) (m_X10_meet v1 v3 v11 v13)) = mm := by rw [qz24]; exact hm
    have hc : eb_M l yX10_isTold (Cond.code yX10_isTold cX10_isTold 4 (some .boolean) :: wsL_law) 0 0 D 18 cy rL ad σ [.long v11, .long v13] (some (.int (eb_b z24))) σ := by rw [qz24]; exact c_X10_isTold l D cy ad σ v11 v13 h23
    refine eb_callS (n := 2) X hw hl.1 (rest := []) hc (eb_goodS wi_37_15 wi_37_16 wi_1_5 wi_37_17) rfl (by decide +kernel) ⟨by decide, by decide⟩ rfl rfl (Nat.le_of_ble_eq_true rfl) dX10_create_178 ⟨by decide, by decide⟩ (st' := [.int (eb_b z24)]) rfl (fun H locs hw => ?_)
    refine lv_if_eq (tgt := 196) hx hb dX10_create_181 (by decide) (fun h25 => ?_) (fun h25 => ?_)
    · have hm := (if_pos h25).symm.trans hm
      refine lv_ldc2 hx hb hown (hts _ (List.mem_cons_of_mem _ wi_34_17)) dX10_create_196 ?_
      subst hm
      exact eb_lret X hw rfl rfl rfl dX10_create_199
    · have hm := (if_neg h25).symm.trans hm
      refine lv_lload_n hx hb dX10_create_184 rfl (lv_at hl 1 rfl) ?_
      refine lv_lload_n hx hb dX10_create_185 rfl (lv_at hl 2 rfl) ?_
      refine lv_lload hx hb dX10_create_186 (lv_at hl 6 rfl) ?_
      refine lv_lload hx hb dX10_create_188 (lv_at hl 7 rfl) ?_
      obtain ⟨z26, qz26⟩ : ∃ t : Bool, t = m_X10_meet v1 v3 v11 v13 := ⟨_, rfl⟩
      have hm : (if (eb_b z26) = 0 then m_X10_create_200  σ v1 v3 v5 v7 v9 v11 v13 else ((-1), σ)) = mm := by rw [qz26]; exact hm
      have hc : eb_M l yX10_meet (Cond.code yX10_meet cX10_meet 8 (some .boolean) :: wsL_law) 0 0 D 18 cy rL ad σ [.long v1, .long v3, .long v11, .long v13] (some (.int (eb_b z26))) σ := by rw [qz26]; exact c_X10_meet l D cy ad σ v1 v3 v11 v13
      refine eb_callS (n := 4) X hw hl.1 (rest := []) hc (eb_goodS wi_37_18 wi_37_19 wi_1_5 wi_37_20) rfl (by decide +kernel) ⟨by decide, by decide⟩ rfl rfl (Nat.le_of_ble_eq_true rfl) dX10_create_190 ⟨by decide, by decide⟩ (st' := [.int (eb_b z26)]) rfl (fun H locs hw => ?_)
      refine lv_if_eq (tgt := 200) hx hb dX10_create_193 (by decide) (fun h27 => ?_) (fun h27 => ?_)
      · have hm := (if_pos h27).symm.trans hm
        exact k_X10_create_200 X   σ v1 v3 v5 v7 v9 v11 v13 hj_ h1_ h2_ (eb_q3 h2_ (show m_X10_isTold v11 v13 = true from by rw [← qz24]; exact eb_b_n0 h25)) hm hw (lv_sub hl [0, 1, 2, 3, 4, 5, 6, 7] rfl)
      · have hm := (if_neg h27).symm.trans hm
        refine lv_ldc2 hx hb hown (hts _ (List.mem_cons_of_mem _ wi_34_17)) dX10_create_196 ?_
        subst hm
        exact eb_lret X hw rfl rfl rfl dX10_create_199
set_option maxHeartbeats 4000000 in
set_option maxRecDepth 100000 in
theorem k_X10_create_119 {p : Program} {l : Launch} {e : Env} {s : State} {m : MethodId} {args : Array Value} {below : List Frame} {meth : Method} {c : Code} {A : Nat → Prop} {H : Heap} {locs : List Loc} {ls : Array Slot} {D : va_G} {cy : Nat → ClassId} {ad : Nat → Nat} (X : eb_X p s m args meth c cX10_create 17 RX10 (Cond.code yX10_create cX10_create 17 (some .long) :: wsL_law) (some .long) D cy A)   (σ : eb_St) (v1 : Int64) (v3 : Int64) (v5 : Int64) (v7 : Int64) (v9 : Int64) (v11 : Int64) (v13 : Int64) (hj_ : rJ σ) (h1_ : rQ1 v1 v3 v5 v7) {mm : Int64 × eb_St} (hm : (m_X10_create_119  σ v1 v3 v5 v7 v9 v11 v13) = mm) (hw : eb_H D 18 cy rL ad A s.heap σ H locs) (hl : lv_has ls 17 [(0, .ref (ad 0)), (1, .long v1), (3, .long v3), (5, .long v5), (7, .long v7), (9, .long v9), (11, .long v11), (13, .long v13)]) : W p l e ({ frames := 6, cells := 0, slots := 0, locals := 146 } : Room) s m args below meth c H locs 0 0 (MQ below (eb_Q D 18 cy rL ad A (some (.long mm.1)) mm.2) args s 0 0 A) (F0 m 119 ls []) := by
  have hx := X.1.1
  have hb := X.1.2.1
  have hown := X.1.2.2.2.1
  have hts := X.1.2.2.2.2
  have hm : (fun (z17 : Bool) => (if (eb_b z17) = 0 then ((-1), σ) else (if (v9 - v9 / 4 * 4) = 0 then (if v13 = 0 then m_X10_create_167  σ v1 v3 v5 v7 v9 v11 v13 else (fun (z21 : Bool) => (if (eb_b z21) = 0 then ((-1), σ) else m_X10_create_167  σ v1 v3 v5 v7 v9 v11 v13)) (m_X10_isPower v13 8 4096)) else ((-1), σ)))) (m_X10_in v9 0 (v3 - 1)) = mm := hm
  refine lv_lload hx hb dX10_create_119 (lv_at hl 5 rfl) ?_
  refine lv_lconst (v := 0) hx hb dX10_create_121 (by decide) ?_
  refine lv_lload_n hx hb dX10_create_122 rfl (lv_at hl 2 rfl) ?_
  refine lv_lconst (v := 1) hx hb dX10_create_123 (by decide) ?_
  refine lv_lsub hx hb dX10_create_124 ?_
  obtain ⟨z17, qz17⟩ : ∃ t : Bool, t = m_X10_in v9 0 (v3 - 1) := ⟨_, rfl⟩
  have hm : (if (eb_b z17) = 0 then ((-1), σ) else (if (v9 - v9 / 4 * 4) = 0 then (if v13 = 0 then m_X10_create_167  σ v1 v3 v5 v7 v9 v11 v13 else (fun (z21 : Bool) => (if (eb_b z21) = 0 then ((-1), σ) else m_X10_create_167  σ v1 v3 v5 v7 v9 v11 v13)) (m_X10_isPower v13 8 4096)) else ((-1), σ))) = mm := by rw [qz17]; exact hm
  have hc : eb_M l yX10_in (Cond.code yX10_in cX10_in 6 (some .boolean) :: wsL_law) 0 0 D 18 cy rL ad σ [.long v9, .long 0, .long (v3 - 1)] (some (.int (eb_b z17))) σ := by rw [qz17]; exact c_X10_in l D cy ad σ v9 0 (v3 - 1)
  refine eb_callS (n := 3) X hw hl.1 (rest := []) hc (eb_goodS wi_29_9 wi_29_10 wi_1_5 wi_29_11) rfl (by decide +kernel) ⟨by decide, by decide⟩ rfl rfl (Nat.le_of_ble_eq_true rfl) dX10_create_125 ⟨by decide, by decide⟩ (st' := [.int (eb_b z17)]) rfl (fun H locs hw => ?_)
  refine lv_if_eq (tgt := 163) hx hb dX10_create_128 (by decide) (fun h18 => ?_) (fun h18 => ?_)
  · have hm := (if_pos h18).symm.trans hm
    refine lv_ldc2 hx hb hown (hts _ (List.mem_cons_of_mem _ wi_34_17)) dX10_create_163 ?_
    subst hm
    exact eb_lret X hw rfl rfl rfl dX10_create_166
  · have hm := (if_neg h18).symm.trans hm
    refine lv_lload hx hb dX10_create_131 (lv_at hl 5 rfl) ?_
    refine lv_ldc2 hx hb hown (hts _ (List.mem_cons_of_mem _ wi_30_14)) dX10_create_133 ?_
    refine lv_lrem hx hb dX10_create_136 (by decide) ?_
    refine lv_lconst (v := 0) hx hb dX10_create_137 (by decide) ?_
    refine eb_lif_ne (tgt := 163) hx hb dX10_create_138 dX10_create_139 (by decide) (fun h19 => ?_) (fun h19 => ?_)
    · have hm := (if_neg h19).symm.trans hm
      refine lv_ldc2 hx hb hown (hts _ (List.mem_cons_of_mem _ wi_34_17)) dX10_create_163 ?_
      subst hm
      exact eb_lret X hw rfl rfl rfl dX10_create_166
    · have hm := (if_pos h19).symm.trans hm
      refine lv_lload hx hb dX10_create_142 (lv_at hl 7 rfl) ?_
      refine lv_lconst (v := 0) hx hb dX10_create_144 (by decide) ?_
      refine eb_lif_eq (tgt := 167) hx hb dX10_create_145 dX10_create_146 (by decide) (fun h20 => ?_) (fun h20 => ?_)
      · have hm := (if_pos h20).symm.trans hm
        exact k_X10_create_167 X   σ v1 v3 v5 v7 v9 v11 v13 hj_ h1_ (Or.inl (eb_z0 h20)) hm hw (lv_sub hl [0, 1, 2, 3, 4, 5, 6, 7] rfl)
      · have hm := (if_neg h20).symm.trans hm
        refine lv_lload hx hb dX10_create_149 (lv_at hl 7 rfl) ?_
        refine lv_ldc2 hx hb hown (hts _ (List.mem_cons_of_mem _ wi_31_11)) dX10_create_151 ?_
        refine lv_ldc2 hx hb hown (hts _ (List.mem_cons_of_mem _ wi_37_10)) dX10_create_154 ?_
        obtain ⟨z21, qz21⟩ : ∃ t : Bool, t = m_X10_isPower v13 8 4096 := ⟨_, rfl⟩
        have hm : (if (eb_b z21) = 0 then ((-1), σ) else m_X10_create_167  σ v1 v3 v5 v7 v9 v11 v13) = mm := by rw [qz21]; exact hm
        have hc : eb_M l yX10_isPower (Cond.code yX10_isPower cX10_isPower 6 (some .boolean) :: wsL_law) 0 0 D 18 cy rL ad σ [.long v13, .long 8, .long 4096] (some (.int (eb_b z21))) σ := by rw [qz21]; exact c_X10_isPower l D cy ad σ v13 8 4096
        refine eb_callS (n := 3) X hw hl.1 (rest := []) hc (eb_goodS wi_37_12 wi_37_13 wi_1_5 wi_37_14) rfl (by decide +kernel) ⟨by decide, by decide⟩ rfl rfl (Nat.le_of_ble_eq_true rfl) dX10_create_157 ⟨by decide, by decide⟩ (st' := [.int (eb_b z21)]) rfl (fun H locs hw => ?_)
        refine lv_if_ne (tgt := 167) hx hb dX10_create_160 (by decide) (fun h22 => ?_) (fun h22 => ?_)
        · have hm := (if_neg h22).symm.trans hm
          exact k_X10_create_167 X   σ v1 v3 v5 v7 v9 v11 v13 hj_ h1_ (eb_q2 (show m_X10_isPower v13 8 4096 = true from by rw [← qz21]; exact eb_b_n0 h22)) hm hw (lv_sub hl [0, 1, 2, 3, 4, 5, 6, 7] rfl)
        · have hm := (if_pos h22).symm.trans hm
          refine lv_ldc2 hx hb hown (hts _ (List.mem_cons_of_mem _ wi_34_17)) dX10_create_163 ?_
          subst hm
          exact eb_lret X hw rfl rfl rfl dX10_create_166
set_option maxHeartbeats 4000000 in
set_option maxRecDepth 100000 in
theorem c_X10_create (l : Launch) (D : va_G) (cy : Nat → ClassId) (ad : Nat → Nat) (σ : eb_St)  (hj_ : rJ σ) : eb_M l yX10_create (Cond.code yX10_create cX10_create 17 (some .long) :: wsL_law) 6 146 D 18 cy rL ad σ [.ref (ad 0)] (some (.long (m_X10_create σ).1)) ((m_X10_create σ).2) := by
  refine eb_start (own := RX10) (by decide) rfl rfl (Nat.le_of_ble_eq_true rfl) ?_
  intro p e s m args below meth c A ls X hw hl
  have hl : lv_has ls 17 [(0, .ref (ad 0))] := hl
  have hx := X.1.1
  have hb := X.1.2.1
  have hown := X.1.2.2.2.1
  have hts := X.1.2.2.2.2
  generalize hm : m_X10_create σ = mm
  have hm : (fun (z1 : Int64) => (fun (z2 : Int64) => (fun (z3 : Int64) => (fun (z4 : Int64) => (fun (z5 : Int64) => (fun (z6 : Int64) => (fun (z7 : Int64) => (fun (z8 : Bool) => (if (eb_b z8) = 0 then ((-1), σ) else (fun (z10 : Bool) => (if (eb_b z10) = 0 then ((-1), σ) else (fun (z12 : Bool) => (if (eb_b z12) = 0 then ((-1), σ) else (if z4 ≤ 0 then m_X10_create_119  σ z1 z2 z3 z4 z5 z6 z7 else (if z3 < 0 then ((-1), σ) else (if z3 ≤ (65536 - z4) then m_X10_create_119  σ z1 z2 z3 z4 z5 z6 z7 else ((-1), σ)))))) (m_X10_in z4 0 z2))) (m_X10_isTold z1 z2))) (m_X10_isPower z2 32 16384)) (m_X10_x σ 16)) (m_X10_x σ 15)) (m_X10_x σ 14)) (m_X10_x σ 13)) (m_X10_x σ 12)) (m_X10_x σ 11)) (m_X10_x σ 10) = mm := hm
  refine lv_aload_n hx hb dX10_create_0 rfl (lv_at hl 0 rfl) ?_
  refine lv_bipush (v := 10) hx hb dX10_create_1 (by decide) ?_
  obtain ⟨z1, qz1⟩ : ∃ t : Int64, t = m_X10_x σ 10 := ⟨_, rfl⟩
  have hm : (fun (z2 : Int64) => (fun (z3 : Int64) => (fun (z4 : Int64) => (fun (z5 : Int64) => (fun (z6 : Int64) => (fun (z7 : Int64) => (fun (z8 : Bool) => (if (eb_b z8) = 0 then ((-1), σ) else (fun (z10 : Bool) => (if (eb_b z10) = 0 then ((-1), σ) else (fun (z12 : Bool) => (if (eb_b z12) = 0 then ((-1), σ) else (if z4 ≤ 0 then m_X10_create_119  σ z1 z2 z3 z4 z5 z6 z7 else (if z3 < 0 then ((-1), σ) else (if z3 ≤ (65536 - z4) then m_X10_create_119  σ z1 z2 z3 z4 z5 z6 z7 else ((-1), σ)))))) (m_X10_in z4 0 z2))) (m_X10_isTold z1 z2))) (m_X10_isPower z2 32 16384)) (m_X10_x σ 16)) (m_X10_x σ 15)) (m_X10_x σ 14)) (m_X10_x σ 13)) (m_X10_x σ 12)) (m_X10_x σ 11) = mm := by rw [qz1]; exact hm
  have hc : eb_M l yX10_x (Cond.code yX10_x cX10_x 2 (some .long) :: wsL_law) 1 20 D 18 cy rL ad σ [.ref (ad 0), .int 10] (some (.long z1)) σ := by rw [qz1]; exact c_X10_x l D cy ad σ 10 hj_ (vp_in_iff.mpr ⟨by decide, by decide⟩)
  refine eb_callV (n := 1) (as := [.int 10]) (rest := []) X hw hl.1 0 hc (by decide) ⟨rfl, rfl, rfl⟩ (eb_goodV wi_33_4 wi_33_5 wi_33_6 wi_1_5 wi_33_7) rfl (by decide +kernel) ⟨by decide, by decide⟩ rfl rfl (Nat.le_of_ble_eq_true rfl) dX10_create_3 ⟨by decide, by decide⟩ (st' := [.long z1]) rfl (fun H locs hw => ?_)
  refine lv_lstore_n (lv' := [(1, .long z1), (0, .ref (ad 0))]) hx hb dX10_create_6 rfl hl (by decide) rfl (fun ls hl => ?_)
  refine lv_aload_n hx hb dX10_create_7 rfl (lv_at hl 1 rfl) ?_
  refine lv_bipush (v := 11) hx hb dX10_create_8 (by decide) ?_
  obtain ⟨z2, qz2⟩ : ∃ t : Int64, t = m_X10_x σ 11 := ⟨_, rfl⟩
  have hm : (fun (z3 : Int64) => (fun (z4 : Int64) => (fun (z5 : Int64) => (fun (z6 : Int64) => (fun (z7 : Int64) => (fun (z8 : Bool) => (if (eb_b z8) = 0 then ((-1), σ) else (fun (z10 : Bool) => (if (eb_b z10) = 0 then ((-1), σ) else (fun (z12 : Bool) => (if (eb_b z12) = 0 then ((-1), σ) else (if z4 ≤ 0 then m_X10_create_119  σ z1 z2 z3 z4 z5 z6 z7 else (if z3 < 0 then ((-1), σ) else (if z3 ≤ (65536 - z4) then m_X10_create_119  σ z1 z2 z3 z4 z5 z6 z7 else ((-1), σ)))))) (m_X10_in z4 0 z2))) (m_X10_isTold z1 z2))) (m_X10_isPower z2 32 16384)) (m_X10_x σ 16)) (m_X10_x σ 15)) (m_X10_x σ 14)) (m_X10_x σ 13)) (m_X10_x σ 12) = mm := by rw [qz2]; exact hm
  have hc : eb_M l yX10_x (Cond.code yX10_x cX10_x 2 (some .long) :: wsL_law) 1 20 D 18 cy rL ad σ [.ref (ad 0), .int 11] (some (.long z2)) σ := by rw [qz2]; exact c_X10_x l D cy ad σ 11 hj_ (vp_in_iff.mpr ⟨by decide, by decide⟩)
  refine eb_callV (n := 1) (as := [.int 11]) (rest := []) X hw hl.1 0 hc (by decide) ⟨rfl, rfl, rfl⟩ (eb_goodV wi_33_4 wi_33_5 wi_33_6 wi_1_5 wi_33_7) rfl (by decide +kernel) ⟨by decide, by decide⟩ rfl rfl (Nat.le_of_ble_eq_true rfl) dX10_create_10 ⟨by decide, by decide⟩ (st' := [.long z2]) rfl (fun H locs hw => ?_)
  refine lv_lstore_n (lv' := [(3, .long z2), (1, .long z1), (0, .ref (ad 0))]) hx hb dX10_create_13 rfl hl (by decide) rfl (fun ls hl => ?_)
  refine lv_aload_n hx hb dX10_create_14 rfl (lv_at hl 2 rfl) ?_
  refine lv_bipush (v := 12) hx hb dX10_create_15 (by decide) ?_
  obtain ⟨z3, qz3⟩ : ∃ t : Int64, t = m_X10_x σ 12 := ⟨_, rfl⟩
  have hm : (fun (z4 : Int64) => (fun (z5 : Int64) => (fun (z6 : Int64) => (fun (z7 : Int64) => (fun (z8 : Bool) => (if (eb_b z8) = 0 then ((-1), σ) else (fun (z10 : Bool) => (if (eb_b z10) = 0 then ((-1), σ) else (fun (z12 : Bool) => (if (eb_b z12) = 0 then ((-1), σ) else (if z4 ≤ 0 then m_X10_create_119  σ z1 z2 z3 z4 z5 z6 z7 else (if z3 < 0 then ((-1), σ) else (if z3 ≤ (65536 - z4) then m_X10_create_119  σ z1 z2 z3 z4 z5 z6 z7 else ((-1), σ)))))) (m_X10_in z4 0 z2))) (m_X10_isTold z1 z2))) (m_X10_isPower z2 32 16384)) (m_X10_x σ 16)) (m_X10_x σ 15)) (m_X10_x σ 14)) (m_X10_x σ 13) = mm := by rw [qz3]; exact hm
  have hc : eb_M l yX10_x (Cond.code yX10_x cX10_x 2 (some .long) :: wsL_law) 1 20 D 18 cy rL ad σ [.ref (ad 0), .int 12] (some (.long z3)) σ := by rw [qz3]; exact c_X10_x l D cy ad σ 12 hj_ (vp_in_iff.mpr ⟨by decide, by decide⟩)
  refine eb_callV (n := 1) (as := [.int 12]) (rest := []) X hw hl.1 0 hc (by decide) ⟨rfl, rfl, rfl⟩ (eb_goodV wi_33_4 wi_33_5 wi_33_6 wi_1_5 wi_33_7) rfl (by decide +kernel) ⟨by decide, by decide⟩ rfl rfl (Nat.le_of_ble_eq_true rfl) dX10_create_17 ⟨by decide, by decide⟩ (st' := [.long z3]) rfl (fun H locs hw => ?_)
  refine lv_lstore (lv' := [(5, .long z3), (3, .long z2), (1, .long z1), (0, .ref (ad 0))]) hx hb dX10_create_20 hl (by decide) rfl (fun ls hl => ?_)
  refine lv_aload_n hx hb dX10_create_22 rfl (lv_at hl 3 rfl) ?_
  refine lv_bipush (v := 13) hx hb dX10_create_23 (by decide) ?_
  obtain ⟨z4, qz4⟩ : ∃ t : Int64, t = m_X10_x σ 13 := ⟨_, rfl⟩
  have hm : (fun (z5 : Int64) => (fun (z6 : Int64) => (fun (z7 : Int64) => (fun (z8 : Bool) => (if (eb_b z8) = 0 then ((-1), σ) else (fun (z10 : Bool) => (if (eb_b z10) = 0 then ((-1), σ) else (fun (z12 : Bool) => (if (eb_b z12) = 0 then ((-1), σ) else (if z4 ≤ 0 then m_X10_create_119  σ z1 z2 z3 z4 z5 z6 z7 else (if z3 < 0 then ((-1), σ) else (if z3 ≤ (65536 - z4) then m_X10_create_119  σ z1 z2 z3 z4 z5 z6 z7 else ((-1), σ)))))) (m_X10_in z4 0 z2))) (m_X10_isTold z1 z2))) (m_X10_isPower z2 32 16384)) (m_X10_x σ 16)) (m_X10_x σ 15)) (m_X10_x σ 14) = mm := by rw [qz4]; exact hm
  have hc : eb_M l yX10_x (Cond.code yX10_x cX10_x 2 (some .long) :: wsL_law) 1 20 D 18 cy rL ad σ [.ref (ad 0), .int 13] (some (.long z4)) σ := by rw [qz4]; exact c_X10_x l D cy ad σ 13 hj_ (vp_in_iff.mpr ⟨by decide, by decide⟩)
  refine eb_callV (n := 1) (as := [.int 13]) (rest := []) X hw hl.1 0 hc (by decide) ⟨rfl, rfl, rfl⟩ (eb_goodV wi_33_4 wi_33_5 wi_33_6 wi_1_5 wi_33_7) rfl (by decide +kernel) ⟨by decide, by decide⟩ rfl rfl (Nat.le_of_ble_eq_true rfl) dX10_create_25 ⟨by decide, by decide⟩ (st' := [.long z4]) rfl (fun H locs hw => ?_)
  refine lv_lstore (lv' := [(7, .long z4), (5, .long z3), (3, .long z2), (1, .long z1), (0, .ref (ad 0))]) hx hb dX10_create_28 hl (by decide) rfl (fun ls hl => ?_)
  refine lv_aload_n hx hb dX10_create_30 rfl (lv_at hl 4 rfl) ?_
  refine lv_bipush (v := 14) hx hb dX10_create_31 (by decide) ?_
  obtain ⟨z5, qz5⟩ : ∃ t : Int64, t = m_X10_x σ 14 := ⟨_, rfl⟩
  have hm : (fun (z6 : Int64) => (fun (z7 : Int64) => (fun (z8 : Bool) => (if (eb_b z8) = 0 then ((-1), σ) else (fun (z10 : Bool) => (if (eb_b z10) = 0 then ((-1), σ) else (fun (z12 : Bool) => (if (eb_b z12) = 0 then ((-1), σ) else (if z4 ≤ 0 then m_X10_create_119  σ z1 z2 z3 z4 z5 z6 z7 else (if z3 < 0 then ((-1), σ) else (if z3 ≤ (65536 - z4) then m_X10_create_119  σ z1 z2 z3 z4 z5 z6 z7 else ((-1), σ)))))) (m_X10_in z4 0 z2))) (m_X10_isTold z1 z2))) (m_X10_isPower z2 32 16384)) (m_X10_x σ 16)) (m_X10_x σ 15) = mm := by rw [qz5]; exact hm
  have hc : eb_M l yX10_x (Cond.code yX10_x cX10_x 2 (some .long) :: wsL_law) 1 20 D 18 cy rL ad σ [.ref (ad 0), .int 14] (some (.long z5)) σ := by rw [qz5]; exact c_X10_x l D cy ad σ 14 hj_ (vp_in_iff.mpr ⟨by decide, by decide⟩)
  refine eb_callV (n := 1) (as := [.int 14]) (rest := []) X hw hl.1 0 hc (by decide) ⟨rfl, rfl, rfl⟩ (eb_goodV wi_33_4 wi_33_5 wi_33_6 wi_1_5 wi_33_7) rfl (by decide +kernel) ⟨by decide, by decide⟩ rfl rfl (Nat.le_of_ble_eq_true rfl) dX10_create_33 ⟨by decide, by decide⟩ (st' := [.long z5]) rfl (fun H locs hw => ?_)
  refine lv_lstore (lv' := [(9, .long z5), (7, .long z4), (5, .long z3), (3, .long z2), (1, .long z1), (0, .ref (ad 0))]) hx hb dX10_create_36 hl (by decide) rfl (fun ls hl => ?_)
  refine lv_aload_n hx hb dX10_create_38 rfl (lv_at hl 5 rfl) ?_
  refine lv_bipush (v := 15) hx hb dX10_create_39 (by decide) ?_
  obtain ⟨z6, qz6⟩ : ∃ t : Int64, t = m_X10_x σ 15 := ⟨_, rfl⟩
  have hm : (fun (z7 : Int64) => (fun (z8 : Bool) => (if (eb_b z8) = 0 then ((-1), σ) else (fun (z10 : Bool) => (if (eb_b z10) = 0 then ((-1), σ) else (fun (z12 : Bool) => (if (eb_b z12) = 0 then ((-1), σ) else (if z4 ≤ 0 then m_X10_create_119  σ z1 z2 z3 z4 z5 z6 z7 else (if z3 < 0 then ((-1), σ) else (if z3 ≤ (65536 - z4) then m_X10_create_119  σ z1 z2 z3 z4 z5 z6 z7 else ((-1), σ)))))) (m_X10_in z4 0 z2))) (m_X10_isTold z1 z2))) (m_X10_isPower z2 32 16384)) (m_X10_x σ 16) = mm := by rw [qz6]; exact hm
  have hc : eb_M l yX10_x (Cond.code yX10_x cX10_x 2 (some .long) :: wsL_law) 1 20 D 18 cy rL ad σ [.ref (ad 0), .int 15] (some (.long z6)) σ := by rw [qz6]; exact c_X10_x l D cy ad σ 15 hj_ (vp_in_iff.mpr ⟨by decide, by decide⟩)
  refine eb_callV (n := 1) (as := [.int 15]) (rest := []) X hw hl.1 0 hc (by decide) ⟨rfl, rfl, rfl⟩ (eb_goodV wi_33_4 wi_33_5 wi_33_6 wi_1_5 wi_33_7) rfl (by decide +kernel) ⟨by decide, by decide⟩ rfl rfl (Nat.le_of_ble_eq_true rfl) dX10_create_41 ⟨by decide, by decide⟩ (st' := [.long z6]) rfl (fun H locs hw => ?_)
  refine lv_lstore (lv' := [(11, .long z6), (9, .long z5), (7, .long z4), (5, .long z3), (3, .long z2), (1, .long z1), (0, .ref (ad 0))]) hx hb dX10_create_44 hl (by decide) rfl (fun ls hl => ?_)
  refine lv_aload_n hx hb dX10_create_46 rfl (lv_at hl 6 rfl) ?_
  refine lv_bipush (v := 16) hx hb dX10_create_47 (by decide) ?_
  obtain ⟨z7, qz7⟩ : ∃ t : Int64, t = m_X10_x σ 16 := ⟨_, rfl⟩
  have hm : (fun (z8 : Bool) => (if (eb_b z8) = 0 then ((-1), σ) else (fun (z10 : Bool) => (if (eb_b z10) = 0 then ((-1), σ) else (fun (z12 : Bool) => (if (eb_b z12) = 0 then ((-1), σ) else (if z4 ≤ 0 then m_X10_create_119  σ z1 z2 z3 z4 z5 z6 z7 else (if z3 < 0 then ((-1), σ) else (if z3 ≤ (65536 - z4) then m_X10_create_119  σ z1 z2 z3 z4 z5 z6 z7 else ((-1), σ)))))) (m_X10_in z4 0 z2))) (m_X10_isTold z1 z2))) (m_X10_isPower z2 32 16384) = mm := by rw [qz7]; exact hm
  have hc : eb_M l yX10_x (Cond.code yX10_x cX10_x 2 (some .long) :: wsL_law) 1 20 D 18 cy rL ad σ [.ref (ad 0), .int 16] (some (.long z7)) σ := by rw [qz7]; exact c_X10_x l D cy ad σ 16 hj_ (vp_in_iff.mpr ⟨by decide, by decide⟩)
  refine eb_callV (n := 1) (as := [.int 16]) (rest := []) X hw hl.1 0 hc (by decide) ⟨rfl, rfl, rfl⟩ (eb_goodV wi_33_4 wi_33_5 wi_33_6 wi_1_5 wi_33_7) rfl (by decide +kernel) ⟨by decide, by decide⟩ rfl rfl (Nat.le_of_ble_eq_true rfl) dX10_create_49 ⟨by decide, by decide⟩ (st' := [.long z7]) rfl (fun H locs hw => ?_)
  refine lv_lstore (lv' := [(13, .long z7), (11, .long z6), (9, .long z5), (7, .long z4), (5, .long z3), (3, .long z2), (1, .long z1), (0, .ref (ad 0))]) hx hb dX10_create_52 hl (by decide) rfl (fun ls hl => ?_)
  refine lv_lload_n hx hb dX10_create_54 rfl (lv_at hl 5 rfl) ?_
  refine lv_ldc2 hx hb hown (hts _ (List.mem_cons_of_mem _ wi_37_7)) dX10_create_55 ?_
  refine lv_ldc2 hx hb hown (hts _ (List.mem_cons_of_mem _ wi_37_8)) dX10_create_58 ?_
  obtain ⟨z8, qz8⟩ : ∃ t : Bool, t = m_X10_isPower z2 32 16384 := ⟨_, rfl⟩
  have hm : (if (eb_b z8) = 0 then ((-1), σ) else (fun (z10 : Bool) => (if (eb_b z10) = 0 then ((-1), σ) else (fun (z12 : Bool) => (if (eb_b z12) = 0 then ((-1), σ) else (if z4 ≤ 0 then m_X10_create_119  σ z1 z2 z3 z4 z5 z6 z7 else (if z3 < 0 then ((-1), σ) else (if z3 ≤ (65536 - z4) then m_X10_create_119  σ z1 z2 z3 z4 z5 z6 z7 else ((-1), σ)))))) (m_X10_in z4 0 z2))) (m_X10_isTold z1 z2)) = mm := by rw [qz8]; exact hm
  have hc : eb_M l yX10_isPower (Cond.code yX10_isPower cX10_isPower 6 (some .boolean) :: wsL_law) 0 0 D 18 cy rL ad σ [.long z2, .long 32, .long 16384] (some (.int (eb_b z8))) σ := by rw [qz8]; exact c_X10_isPower l D cy ad σ z2 32 16384
  refine eb_callS (n := 3) X hw hl.1 (rest := []) hc (eb_goodS wi_37_12 wi_37_13 wi_1_5 wi_37_14) rfl (by decide +kernel) ⟨by decide, by decide⟩ rfl rfl (Nat.le_of_ble_eq_true rfl) dX10_create_61 ⟨by decide, by decide⟩ (st' := [.int (eb_b z8)]) rfl (fun H locs hw => ?_)
  refine lv_if_eq (tgt := 85) hx hb dX10_create_64 (by decide) (fun h9 => ?_) (fun h9 => ?_)
  · have hm := (if_pos h9).symm.trans hm
    refine lv_ldc2 hx hb hown (hts _ (List.mem_cons_of_mem _ wi_34_17)) dX10_create_85 ?_
    subst hm
    exact eb_lret X hw rfl rfl rfl dX10_create_88
  · have hm := (if_neg h9).symm.trans hm
    refine lv_lload_n hx hb dX10_create_67 rfl (lv_at hl 6 rfl) ?_
    refine lv_lload_n hx hb dX10_create_68 rfl (lv_at hl 5 rfl) ?_
    obtain ⟨z10, qz10⟩ : ∃ t : Bool, t = m_X10_isTold z1 z2 := ⟨_, rfl⟩
    have hm : (if (eb_b z10) = 0 then ((-1), σ) else (fun (z12 : Bool) => (if (eb_b z12) = 0 then ((-1), σ) else (if z4 ≤ 0 then m_X10_create_119  σ z1 z2 z3 z4 z5 z6 z7 else (if z3 < 0 then ((-1), σ) else (if z3 ≤ (65536 - z4) then m_X10_create_119  σ z1 z2 z3 z4 z5 z6 z7 else ((-1), σ)))))) (m_X10_in z4 0 z2)) = mm := by rw [qz10]; exact hm
    have hc : eb_M l yX10_isTold (Cond.code yX10_isTold cX10_isTold 4 (some .boolean) :: wsL_law) 0 0 D 18 cy rL ad σ [.long z1, .long z2] (some (.int (eb_b z10))) σ := by rw [qz10]; exact c_X10_isTold l D cy ad σ z1 z2 (eb_nz (by have := (l_X10_isPower (show m_X10_isPower z2 32 16384 = true from by rw [← qz8]; exact eb_b_n0 h9)).1; rw [show (32 : Int64).toInt = 32 by decide] at this; omega))
    refine eb_callS (n := 2) X hw hl.1 (rest := []) hc (eb_goodS wi_37_15 wi_37_16 wi_1_5 wi_37_17) rfl (by decide +kernel) ⟨by decide, by decide⟩ rfl rfl (Nat.le_of_ble_eq_true rfl) dX10_create_69 ⟨by decide, by decide⟩ (st' := [.int (eb_b z10)]) rfl (fun H locs hw => ?_)
    refine lv_if_eq (tgt := 85) hx hb dX10_create_72 (by decide) (fun h11 => ?_) (fun h11 => ?_)
    · have hm := (if_pos h11).symm.trans hm
      refine lv_ldc2 hx hb hown (hts _ (List.mem_cons_of_mem _ wi_34_17)) dX10_create_85 ?_
      subst hm
      exact eb_lret X hw rfl rfl rfl dX10_create_88
    · have hm := (if_neg h11).symm.trans hm
      refine lv_lload hx hb dX10_create_75 (lv_at hl 3 rfl) ?_
      refine lv_lconst (v := 0) hx hb dX10_create_77 (by decide) ?_
      refine lv_lload_n hx hb dX10_create_78 rfl (lv_at hl 5 rfl) ?_
      obtain ⟨z12, qz12⟩ : ∃ t : Bool, t = m_X10_in z4 0 z2 := ⟨_, rfl⟩
      have hm : (if (eb_b z12) = 0 then ((-1), σ) else (if z4 ≤ 0 then m_X10_create_119  σ z1 z2 z3 z4 z5 z6 z7 else (if z3 < 0 then ((-1), σ) else (if z3 ≤ (65536 - z4) then m_X10_create_119  σ z1 z2 z3 z4 z5 z6 z7 else ((-1), σ))))) = mm := by rw [qz12]; exact hm
      have hc : eb_M l yX10_in (Cond.code yX10_in cX10_in 6 (some .boolean) :: wsL_law) 0 0 D 18 cy rL ad σ [.long z4, .long 0, .long z2] (some (.int (eb_b z12))) σ := by rw [qz12]; exact c_X10_in l D cy ad σ z4 0 z2
      refine eb_callS (n := 3) X hw hl.1 (rest := []) hc (eb_goodS wi_29_9 wi_29_10 wi_1_5 wi_29_11) rfl (by decide +kernel) ⟨by decide, by decide⟩ rfl rfl (Nat.le_of_ble_eq_true rfl) dX10_create_79 ⟨by decide, by decide⟩ (st' := [.int (eb_b z12)]) rfl (fun H locs hw => ?_)
      refine lv_if_ne (tgt := 89) hx hb dX10_create_82 (by decide) (fun h13 => ?_) (fun h13 => ?_)
      · have hm := (if_neg h13).symm.trans hm
        refine lv_lload hx hb dX10_create_89 (lv_at hl 3 rfl) ?_
        refine lv_lconst (v := 0) hx hb dX10_create_91 (by decide) ?_
        refine eb_lif_le (tgt := 119) hx hb dX10_create_92 dX10_create_93 (by decide) (fun h14 => ?_) (fun h14 => ?_)
        · have hm := (if_pos h14).symm.trans hm
          exact k_X10_create_119 X   σ z1 z2 z3 z4 z5 z6 z7 hj_ (eb_q1 (show m_X10_isPower z2 32 16384 = true from by rw [← qz8]; exact eb_b_n0 h9) (show m_X10_isTold z1 z2 = true from by rw [← qz10]; exact eb_b_n0 h11) (show m_X10_in z4 0 z2 = true from by rw [← qz12]; exact eb_b_n0 h13) (Or.inl h14)) hm hw (lv_sub hl [7, 6, 5, 4, 3, 2, 1, 0] rfl)
        · have hm := (if_neg h14).symm.trans hm
          refine lv_lload hx hb dX10_create_96 (lv_at hl 4 rfl) ?_
          refine lv_lconst (v := 0) hx hb dX10_create_98 (by decide) ?_
          refine eb_lif_lt (tgt := 115) hx hb dX10_create_99 dX10_create_100 (by decide) (fun h15 => ?_) (fun h15 => ?_)
          · have hm := (if_pos h15).symm.trans hm
            refine lv_ldc2 hx hb hown (hts _ (List.mem_cons_of_mem _ wi_34_17)) dX10_create_115 ?_
            subst hm
            exact eb_lret X hw rfl rfl rfl dX10_create_118
          · have hm := (if_neg h15).symm.trans hm
            refine lv_lload hx hb dX10_create_103 (lv_at hl 4 rfl) ?_
            refine lv_ldc2 hx hb hown (hts _ (List.mem_cons_of_mem _ wi_37_9)) dX10_create_105 ?_
            refine lv_lload hx hb dX10_create_108 (lv_at hl 3 rfl) ?_
            refine lv_lsub hx hb dX10_create_110 ?_
            refine eb_lif_le (tgt := 119) hx hb dX10_create_111 dX10_create_112 (by decide) (fun h16 => ?_) (fun h16 => ?_)
            · have hm := (if_pos h16).symm.trans hm
              exact k_X10_create_119 X   σ z1 z2 z3 z4 z5 z6 z7 hj_ (eb_q1 (show m_X10_isPower z2 32 16384 = true from by rw [← qz8]; exact eb_b_n0 h9) (show m_X10_isTold z1 z2 = true from by rw [← qz10]; exact eb_b_n0 h11) (show m_X10_in z4 0 z2 = true from by rw [← qz12]; exact eb_b_n0 h13) (Or.inr ⟨h15, h16⟩)) hm hw (lv_sub hl [7, 6, 5, 4, 3, 2, 1, 0] rfl)
            · have hm := (if_neg h16).symm.trans hm
              refine lv_ldc2 hx hb hown (hts _ (List.mem_cons_of_mem _ wi_34_17)) dX10_create_115 ?_
              subst hm
              exact eb_lret X hw rfl rfl rfl dX10_create_118
      · have hm := (if_pos h13).symm.trans hm
        refine lv_ldc2 hx hb hown (hts _ (List.mem_cons_of_mem _ wi_34_17)) dX10_create_85 ?_
        subst hm
        exact eb_lret X hw rfl rfl rfl dX10_create_88
