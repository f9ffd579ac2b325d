def m_X5_isPlace (a0 : Int64) : Bool := (if a0 < 0 then false else (if (6 : Int64) ≤ a0 then false else true))
theorem l_isPlace {e : Int64} (h : ¬ eb_b (m_X5_isPlace e) = 0) : vp_in e.toInt32 6 := by
  unfold m_X5_isPlace at h
  by_cases h1 : e < 0
  · rw [if_pos h1] at h; exact absurd rfl h
  · by_cases h2 : (6 : Int64) ≤ e
    · rw [if_neg h1, if_pos h2] at h; exact absurd rfl h
    · obtain ⟨k, hk, rfl⟩ := pk_lOf h1
      have h3 : k < 6 := by
        rw [show (6 : Int64) = lN 6 by decide, pk_lLE (by omega) hk] at h2; omega
      rw [lN_i]
      exact vp_in_nI h3 (by decide)
theorem l_isPlaceI {r : Int32} (h : ¬ eb_b (m_X5_isPlace r.toInt64) = 0) : vp_in r 6 := by
  have := l_isPlace h
  rwa [Int32.toInt32_toInt64] at this

def m_X5_whoRuns (σ : eb_St)  : Nat := (fun (z1 : Bool) => (if (eb_b z1) = 0 then 6 else (σ.1 10 6).toNatClampNeg)) (m_X5_isPlace ((σ.1 10 6).toInt64))
theorem l_X5_whoRuns (σ : eb_St) : m_X5_whoRuns σ < 7 := by
  show (if eb_b (m_X5_isPlace (σ.1 10 6).toInt64) = 0 then 6 else (σ.1 10 6).toNatClampNeg) < 7
  by_cases h : eb_b (m_X5_isPlace (σ.1 10 6).toInt64) = 0
  · rw [if_pos h]; decide
  · rw [if_neg h]
    have := l_isPlaceI h
    have h2 : (σ.1 10 6).toNatClampNeg < 6 := Nat.not_le.mp fun q => this (Or.inr q)
    omega

def m_X5_mixed (a0 : Int64) (a1 : Int64) : Int64 := (a0 ^^^ a1) * 1099511628211

def m_X5_mixedNumber_6  : Nat → Int64 → Int64 → Int32 → Int64
  | 0, _, _, _ => 0
  | n + 1, v2, v4, v6 => (if (8 : Int32) ≤ v6 then v4 else (fun (z2 : Int64) => (fun (x3 : Int32) => m_X5_mixedNumber_6  n v2 z2 x3) (v6 + 1)) (m_X5_mixed v4 ((eb_lushr v2 (8 * v6)) &&& 255)))
def m_X5_mixedNumber (a0 : Int64) (a1 : Int64) : Int64 := m_X5_mixedNumber_6  9 a1 a0 0

def m_X5_measureOfRequest_26  : Nat → eb_St → Int64 → Int32 → Int32 → Int32 → Int64
  | 0, _, _, _, _, _ => 0
  | n + 1, σ, v1, v3, v4, v5 => (if v4 ≤ v5 then (fun (z4 : Int64) => (fun (z5 : Int64) => (fun (z6 : Int64) => z6) (m_X5_mixedNumber z5 (σ.2 11 6))) (m_X5_mixedNumber z4 (σ.2 11 4))) (m_X5_mixedNumber v1 (σ.2 11 1)) else (fun (z7 : Int64) => (fun (z8 : Int64) => (fun (x9 : Int32) => m_X5_measureOfRequest_26  n σ z8 v3 v4 x9) (v5 + 1)) (m_X5_mixed v1 z7)) (m_X4_load σ (v3 + v5) 1))
def m_X5_measureOfRequest (σ : eb_St)  : Int64 := (fun (x1 : Int32) => (fun (x2 : Int32) => m_X5_measureOfRequest_26  ((x2.toInt - (0 : Int32).toInt).toNat + 1) σ (-3750763034362895579) x1 x2 0) ((σ.2 11 3).toInt32)) ((σ.2 11 2).toInt32)

def m_X5_keyOf (σ : eb_St) (a0 : Int64) : Int64 := (fun (x1 : Int64) => (fun (x2 : Int64) => (fun (x3 : Int64) => x3 ^^^ (eb_lushr x3 33)) ((x2 ^^^ (eb_lushr x2 33)) * (-4265267296055464877))) ((x1 ^^^ (eb_lushr x1 33)) * (-49064778989728563))) ((σ.2 10 0) ^^^ a0)

def m_X5_remove (σ : eb_St) (a0 : Nat) : eb_St := (if (σ.1 (13 + a0) 1) = 0 then σ else (fun (z2 : eb_St) => eb_pI z2 (13 + a0) 1 0) (m_X4_zero σ (σ.1 (13 + a0) 2) ((σ.1 (13 + a0) 2) + (σ.1 (13 + a0) 3))))

def m_X5_forgetAll_2  : Nat → eb_St → Int32 → eb_St
  | 0, σ, _ => σ
  | n + 1, σ, v1 => (if (6 : Int32) ≤ v1 then eb_pI (eb_pI (eb_pI (eb_pI (eb_pI (eb_pI σ 10 6 (-1)) 10 9 0) 10 10 0) 10 11 0) 10 12 0) 10 13 0 else (fun (z3 : eb_St) => (fun (x4 : Int32) => m_X5_forgetAll_2  n z3 x4) (v1 + 1)) (m_X5_remove σ v1.toNatClampNeg))
def m_X5_forgetAll (σ : eb_St)  : eb_St := m_X5_forgetAll_2  7 σ 0

def m_X5_arrange_2  : Nat → eb_St → Int32 → eb_St
  | 0, σ, _ => σ
  | n + 1, σ, v1 => (if (6 : Int32) ≤ v1 then (fun (z2 : Bool) => (if (eb_b z2) = 0 then (fun (z4 : eb_St) => (fun (z5 : eb_St) => z5) (m_X6_put z4 7 0 0)) (m_X6_put σ 6 0 0) else (if (σ.1 (13 + ((σ.1 10 6).toNatClampNeg)) 6) = 0 then (fun (z11 : eb_St) => (fun (z12 : eb_St) => z12) (m_X6_put z11 7 24 18014398509481983)) (m_X6_put σ 6 0 0) else (fun (z8 : Int64) => (fun (z9 : eb_St) => (fun (z10 : eb_St) => z10) (m_X6_put z9 7 24 18014398509481983)) (m_X6_put σ 6 27 z8)) (m_X6_napot (σ.1 (13 + ((σ.1 10 6).toNatClampNeg)) 5) (σ.1 (13 + ((σ.1 10 6).toNatClampNeg)) 6))))) (m_X5_isPlace ((σ.1 10 6).toInt64)) else (if v1 = (σ.1 10 6) then (if (σ.1 (13 + v1.toNatClampNeg) 1) = 0 then (fun (z25 : eb_St) => (fun (x26 : Int32) => m_X5_arrange_2  n z25 x26) (v1 + 1)) (m_X6_put σ v1 0 0) else (fun (z22 : Int64) => (fun (z23 : eb_St) => (fun (x24 : Int32) => m_X5_arrange_2  n z23 x24) (v1 + 1)) (m_X6_put σ v1 (24 ||| 7) z22)) (m_X6_napot (σ.1 (13 + v1.toNatClampNeg) 2) (σ.1 (13 + v1.toNatClampNeg) 3))) else (if (σ.1 (13 + v1.toNatClampNeg) 1) = 0 then (fun (z19 : eb_St) => (fun (x20 : Int32) => m_X5_arrange_2  n z19 x20) (v1 + 1)) (m_X6_put σ v1 0 0) else (fun (z16 : Int64) => (fun (z17 : eb_St) => (fun (x18 : Int32) => m_X5_arrange_2  n z17 x18) (v1 + 1)) (m_X6_put σ v1 (24 ||| 0) z16)) (m_X6_napot (σ.1 (13 + v1.toNatClampNeg) 2) (σ.1 (13 + v1.toNatClampNeg) 3)))))
def m_X5_arrange (σ : eb_St)  : eb_St := m_X5_arrange_2  7 σ 0

def m_X5_leave_54  (σ : eb_St) (v1 : Int32) (v2 : Int64) : eb_St := (fun (z7 : eb_St) => (fun (z8 : eb_St) => (fun (z9 : eb_St) => z9) (m_X5_arrange z8)) (m_X7_set z7 6 11 v2)) (m_X7_set σ 6 10 v1.toInt64)
def m_X5_leave_31  (σ : eb_St) (v1 : Int32) (v2 : Int64) (s0 : Int32) (s1 : Nat) : eb_St := (if v1 = 1 then (fun (x6 : Int32) => m_X5_leave_54  (eb_pI (eb_pI (eb_pI σ (13 + s1) 1 s0) 10 6 (-1)) 10 12 x6) v1 v2) (((eb_pI (eb_pI σ (13 + s1) 1 s0) 10 6 (-1)).1 10 12) + 1) else m_X5_leave_54  (eb_pI (eb_pI σ (13 + s1) 1 s0) 10 6 (-1)) v1 v2)
def m_X5_leave (σ : eb_St) (a0 : Int32) (a1 : Int64) : eb_St := (fun (z1 : Bool) => (if (eb_b z1) = 0 then σ else (if a0 = 2 then m_X5_leave_31  σ a0 a1 3 ((σ.1 10 6).toNatClampNeg) else m_X5_leave_31  σ a0 a1 2 ((σ.1 10 6).toNatClampNeg)))) (m_X5_isPlace ((σ.1 10 6).toInt64))

def m_X5_takeInterrupt (σ : eb_St)  : eb_St := (if (σ.1 10 9) = 0 then σ else (if (σ.1 10 6) = (-1) then eb_pI (eb_pI σ 10 9 0) 10 13 ((σ.1 10 13) + 1) else (fun (z3 : eb_St) => z3) (m_X5_leave (eb_pI σ 10 9 0) 1 0)))

def m_X5_meetsLiveMemory_3  : Nat → eb_St → Int64 → Int64 → Int32 → Bool
  | 0, _, _, _, _ => false
  | n + 1, σ, v1, v3, v5 => (if (6 : Int32) ≤ v5 then false else (if (σ.1 (13 + v5.toNatClampNeg) 1) = 0 then (fun (x4 : Int32) => m_X5_meetsLiveMemory_3  n σ v1 v3 x4) (v5 + 1) else (fun (z5 : Bool) => (if (eb_b z5) = 0 then (fun (x7 : Int32) => m_X5_meetsLiveMemory_3  n σ v1 v3 x7) (v5 + 1) else true)) (m_X8_meet v1 v3 ((σ.1 (13 + v5.toNatClampNeg) 2).toInt64) ((σ.1 (13 + v5.toNatClampNeg) 3).toInt64))))
def m_X5_meetsLiveMemory (σ : eb_St) (a0 : Int64) (a1 : Int64) : Bool := m_X5_meetsLiveMemory_3  7 σ a0 a1 0

def m_X5_meetsLiveShare_3  : Nat → eb_St → Int64 → Int64 → Int32 → Bool
  | 0, _, _, _, _ => false
  | n + 1, σ, v1, v3, v5 => (if (6 : Int32) ≤ v5 then false else (if (σ.1 (13 + v5.toNatClampNeg) 1) = 0 then (fun (x4 : Int32) => m_X5_meetsLiveShare_3  n σ v1 v3 x4) (v5 + 1) else (if (σ.1 (13 + v5.toNatClampNeg) 6) = 0 then (fun (x6 : Int32) => m_X5_meetsLiveShare_3  n σ v1 v3 x6) (v5 + 1) else (fun (z7 : Bool) => (if (eb_b z7) = 0 then (fun (x9 : Int32) => m_X5_meetsLiveShare_3  n σ v1 v3 x9) (v5 + 1) else true)) (m_X8_meet v1 v3 ((σ.1 (13 + v5.toNatClampNeg) 5).toInt64) ((σ.1 (13 + v5.toNatClampNeg) 6).toInt64)))))
def m_X5_meetsLiveShare (σ : eb_St) (a0 : Int64) (a1 : Int64) : Bool := m_X5_meetsLiveShare_3  7 σ a0 a1 0

def m_X5_freePlace_2  : Nat → eb_St → Int32 → Int32
  | 0, _, _ => 0
  | n + 1, σ, v1 => (if (6 : Int32) ≤ v1 then (-1) else (if (σ.1 (13 + v1.toNatClampNeg) 1) = 0 then v1 else (fun (x4 : Int32) => m_X5_freePlace_2  n σ x4) (v1 + 1)))
def m_X5_freePlace (σ : eb_St)  : Int32 := m_X5_freePlace_2  7 σ 0
theorem l_X5_freePlace_2 : ∀ (n : Nat) (σ : eb_St) (i : Int32), 0 ≤ i.toInt → (m_X5_freePlace_2 n σ i = -1 ∨ vp_in (m_X5_freePlace_2 n σ i) 6) := by
  intro n
  induction n with
  | zero => intro σ i _; exact Or.inr (eb_in0 (by decide))
  | succ n ih =>
    intro σ i hi
    unfold m_X5_freePlace_2
    by_cases h1 : (6 : Int32) ≤ i
    · rw [if_pos h1]; exact Or.inl rfl
    · rw [if_neg h1]
      by_cases h2 : σ.1 (13 + i.toNatClampNeg) 1 = 0
      · rw [if_pos h2]; exact Or.inr (eb_inU (by decide) hi (eb_nle h1))
      · rw [if_neg h2]
        exact ih σ _ (eb_next hi (eb_nle h1))
theorem l_X5_freePlace (σ : eb_St) : m_X5_freePlace σ = -1 ∨ vp_in (m_X5_freePlace σ) 6 := l_X5_freePlace_2 7 σ 0 (by decide)

def m_X5_requestMeetsAnother (σ : eb_St)  : Bool := (fun (z1 : Bool) => (if (eb_b z1) = 0 then (fun (z3 : Bool) => (if (eb_b z3) = 0 then (if (σ.2 11 6) = 0 then false else (fun (z6 : Bool) => (if (eb_b z6) = 0 then false else true)) (m_X5_meetsLiveMemory σ (σ.2 11 5) (σ.2 11 6))) else true)) (m_X5_meetsLiveShare σ (σ.2 11 0) (σ.2 11 1)) else true)) (m_X5_meetsLiveMemory σ (σ.2 11 0) (σ.2 11 1))

def m_X5_hostMayGiveWhatIsRequested_68  (σ : eb_St)  : Bool := (if (σ.2 11 3) = 0 then true else (fun (z7 : Bool) => (if (eb_b z7) = 0 then false else true)) (m_X6_letsEach σ ((σ.2 11 2).toInt32) ((σ.2 11 3).toInt32) 1))
def m_X5_hostMayGiveWhatIsRequested (σ : eb_St)  : Bool := (fun (z1 : Bool) => (if (eb_b z1) = 0 then false else (if (σ.2 11 6) = 0 then m_X5_hostMayGiveWhatIsRequested_68  σ else (fun (z4 : Bool) => (if (eb_b z4) = 0 then false else m_X5_hostMayGiveWhatIsRequested_68  σ)) (m_X6_letsEach σ ((σ.2 11 5).toInt32) ((σ.2 11 6).toInt32) 3)))) (m_X6_letsEach σ ((σ.2 11 0).toInt32) ((σ.2 11 1).toInt32) 3)

def m_X5_create (σ : eb_St)  : Int64 × eb_St := (fun (z1 : eb_St) => (fun (z2 : Bool) => (if (eb_b z2) = 0 then ((-1), z1) else (fun (z4 : Bool) => (if (eb_b z4) = 0 then (fun (z6 : Bool) => (if (eb_b z6) = 0 then ((-4), z1) else (fun (z8 : Int32) => (if z8 = (-1) then ((-3), z1) else (fun (z11 : Int64) => (fun (z12 : Int64) => (fun (z13 : eb_St) => (fun (x14 : Int32) => (fun (z15 : eb_St) => (fun (z16 : eb_St) => (fun (z17 : eb_St) => (z8.toInt64, z17)) (m_X5_arrange (eb_pI z16 10 10 ((z16.1 10 10) + 1)))) (m_X4_zero z15 ((z15.1 (13 + z8.toNatClampNeg) 2) + x14) ((z15.1 (13 + z8.toNatClampNeg) 2) + (z15.1 (13 + z8.toNatClampNeg) 3)))) (m_X4_copy z13 ((z13.2 11 2).toInt32) (z13.1 (13 + z8.toNatClampNeg) 2) x14)) ((z13.2 11 3).toInt32)) (m_X2_begin z1 z8.toNatClampNeg z11 z12)) (m_X5_keyOf z1 z11)) (m_X5_measureOfRequest z1))) (m_X5_freePlace z1))) (m_X5_hostMayGiveWhatIsRequested z1) else ((-2), z1))) (m_X5_requestMeetsAnother z1))) (m_X8_isToldRightly z1)) (m_X8_take σ 6)

def m_X5_enter (σ : eb_St) (a0 : Int32) : eb_St := (if (σ.1 (13 + a0.toNatClampNeg) 1) = 3 then (fun (z7 : eb_St) => z7) (m_X7_set σ 6 10 (-5)) else (fun (x3 : Int32) => (fun (x4 : Int32) => (fun (z5 : Int64) => (fun (z6 : eb_St) => z6) (m_X5_arrange (eb_pJ (eb_pJ (eb_pI (eb_pI (eb_pI (eb_pI σ (13 + a0.toNatClampNeg) 1 4) (13 + a0.toNatClampNeg) 7 x3) 10 11 x4) 10 6 a0) 10 7 z5) 10 8 0))) (m_X7_get (eb_pI (eb_pI (eb_pI (eb_pI σ (13 + a0.toNatClampNeg) 1 4) (13 + a0.toNatClampNeg) 7 x3) 10 11 x4) 10 6 a0) 6 11)) (((eb_pI (eb_pI σ (13 + a0.toNatClampNeg) 1 4) (13 + a0.toNatClampNeg) 7 x3).1 10 11) + 1)) (((eb_pI σ (13 + a0.toNatClampNeg) 1 4).1 (13 + a0.toNatClampNeg) 7) + 1))

def m_X5_answerHost_62  (σ : eb_St)  : eb_St := (fun (z23 : eb_St) => z23) (m_X7_set σ 6 10 (-1))
def m_X5_answerHost (σ : eb_St)  : eb_St := (fun (z1 : Int64) => (fun (z2 : Int64) => (if z1 = 1 then (fun (z21 : Int64 × eb_St) => (fun (z22 : eb_St) => z22) (m_X7_set z21.2 6 10 z21.1)) (m_X5_create σ) else (fun (z4 : Bool) => (if (eb_b z4) = 0 then m_X5_answerHost_62  σ else (if (σ.1 (13 + z2.toInt32.toNatClampNeg) 1) = 0 then m_X5_answerHost_62  σ else (if z1 = 2 then (fun (z20 : eb_St) => z20) (m_X5_enter σ z2.toInt32) else (if z1 = 3 then (fun (z17 : eb_St) => (fun (z18 : eb_St) => (fun (z19 : eb_St) => z19) (m_X7_set z18 6 10 0)) (m_X5_arrange z17)) (m_X5_remove σ z2.toInt32.toNatClampNeg) else (if z1 = 4 then (fun (z13 : eb_St) => (fun (z15 : eb_St) => z15) (m_X7_set z13 6 11 (z13.2 (13 + z2.toInt32.toNatClampNeg) 9))) (m_X7_set σ 6 10 ((σ.1 (13 + z2.toInt32.toNatClampNeg) 1).toInt64)) else (fun (z11 : eb_St) => z11) (m_X7_set σ 6 10 (-1)))))))) (m_X5_isPlace z2))) (m_X7_get σ 6 10)) (m_X7_get σ 6 17)

def m_X5_answerEnclave (σ : eb_St) (a0 : Nat) : eb_St := (fun (z1 : Int64) => (if z1 = 2 then (fun (z9 : eb_St) => z9) (m_X7_set σ a0 10 (σ.2 (13 + a0) 10)) else (if z1 = 3 then (fun (z5 : eb_St) => (fun (z6 : eb_St) => (fun (z7 : eb_St) => (fun (z8 : eb_St) => z8) (m_X7_set z7 a0 13 ((z7.1 (13 + a0) 6).toInt64))) (m_X7_set z6 a0 12 ((z6.1 (13 + a0) 5).toInt64))) (m_X7_set z5 a0 11 ((z5.1 (13 + a0) 3).toInt64))) (m_X7_set σ a0 10 ((σ.1 (13 + a0) 2).toInt64)) else (fun (z4 : eb_St) => z4) (m_X7_set σ a0 10 (-1))))) (m_X7_get σ a0 17)

def m_X5_settleStay_113  (σ : eb_St)  : eb_St := (if (σ.1 10 6) = (-1) then σ else (if (σ.2 10 8) = (σ.2 10 7) then (fun (z16 : eb_St) => z16) (m_X5_leave σ 1 0) else σ))
def m_X5_settleStay (σ : eb_St) (a0 : Int32) : eb_St := (fun (z1 : Bool) => (if (eb_b z1) = 0 then σ else (fun (x4 : Int32) => (if a0 = 11 then (fun (x8 : Int64) => (fun (z9 : Int64) => (if z9 = 1 then (fun (z12 : Int64) => (fun (z13 : eb_St) => m_X5_settleStay_113  z13) (m_X5_leave (eb_pJ (eb_pJ (eb_pI σ (13 + ((σ.1 10 6).toNatClampNeg)) 8 x4) 10 8 ((σ.2 10 8) + 1)) (19 + ((σ.1 10 6).toNatClampNeg)) 1 x8) 0 z12)) (m_X7_get (eb_pJ (eb_pJ (eb_pI σ (13 + ((σ.1 10 6).toNatClampNeg)) 8 x4) 10 8 ((σ.2 10 8) + 1)) (19 + ((σ.1 10 6).toNatClampNeg)) 1 x8) ((σ.1 10 6).toNatClampNeg) 10) else (fun (z11 : eb_St) => m_X5_settleStay_113  z11) (m_X5_answerEnclave (eb_pJ (eb_pJ (eb_pI σ (13 + ((σ.1 10 6).toNatClampNeg)) 8 x4) 10 8 ((σ.2 10 8) + 1)) (19 + ((σ.1 10 6).toNatClampNeg)) 1 x8) ((σ.1 10 6).toNatClampNeg)))) (m_X7_get (eb_pJ (eb_pJ (eb_pI σ (13 + ((σ.1 10 6).toNatClampNeg)) 8 x4) 10 8 ((σ.2 10 8) + 1)) (19 + ((σ.1 10 6).toNatClampNeg)) 1 x8) ((σ.1 10 6).toNatClampNeg) 17)) (((eb_pJ (eb_pI σ (13 + ((σ.1 10 6).toNatClampNeg)) 8 x4) 10 8 ((σ.2 10 8) + 1)).2 (19 + ((σ.1 10 6).toNatClampNeg)) 1) + 4) else (if a0 = (-1) then m_X5_settleStay_113  (eb_pJ (eb_pI σ (13 + ((σ.1 10 6).toNatClampNeg)) 8 x4) 10 8 ((σ.2 10 8) + 1)) else (fun (z7 : eb_St) => m_X5_settleStay_113  z7) (m_X5_leave (eb_pJ (eb_pI σ (13 + ((σ.1 10 6).toNatClampNeg)) 8 x4) 10 8 ((σ.2 10 8) + 1)) 2 a0.toInt64)))) ((σ.1 (13 + ((σ.1 10 6).toNatClampNeg)) 8) + 1))) (m_X5_isPlace ((σ.1 10 6).toInt64))
set_option maxHeartbeats 4000000 in
set_option maxRecDepth 100000 in
theorem c_X5_isPlace (l : Launch) (D : va_G) (cy : Nat → ClassId) (ad : Nat → Nat) (σ : eb_St) (a0 : Int64)  : eb_M l yX5_isPlace (Cond.code yX5_isPlace cX5_isPlace 2 (some .boolean) :: wsL_law) 0 0 D 33 cy cL ad σ [.long a0] (some (.int (eb_b (m_X5_isPlace a0)))) σ := by
  refine eb_start (own := RX5) (by decide) rfl rfl (Nat.le_of_ble_eq_true rfl) ?_
  intro p e s m args below meth c A ls X hw hl
  have hl : lv_has ls 2 [(0, .long a0)] := hl
  have hx := X.1.1
  have hb := X.1.2.1
  have hown := X.1.2.2.2.1
  have hts := X.1.2.2.2.2
  generalize hm : m_X5_isPlace a0 = mm
  have hm : (if a0 < 0 then false else (if (6 : Int64) ≤ a0 then false else true)) = mm := hm
  refine lv_lload_n hx hb dX5_isPlace_0 rfl (lv_at hl 0 rfl) ?_
  refine lv_lconst (v := 0) hx hb dX5_isPlace_1 (by decide) ?_
  refine eb_lif_lt (tgt := 18) hx hb dX5_isPlace_2 dX5_isPlace_3 (by decide) (fun h1 => ?_) (fun h1 => ?_)
  · have hm := (if_pos h1).symm.trans hm
    refine lv_iconst (v := 0) hx hb dX5_isPlace_18 (by decide) ?_
    subst hm
    exact eb_zret X hw rfl rfl rfl rfl dX5_isPlace_19
  · have hm := (if_neg h1).symm.trans hm
    refine lv_lload_n hx hb dX5_isPlace_6 rfl (lv_at hl 0 rfl) ?_
    refine lv_ldc2 hx hb hown (hts _ (List.mem_cons_of_mem _ wi_13_4)) dX5_isPlace_7 ?_
    refine eb_lif_ge (tgt := 18) hx hb dX5_isPlace_10 dX5_isPlace_11 (by decide) (fun h2 => ?_) (fun h2 => ?_)
    · have hm := (if_pos h2).symm.trans hm
      refine lv_iconst (v := 0) hx hb dX5_isPlace_18 (by decide) ?_
      subst hm
      exact eb_zret X hw rfl rfl rfl rfl dX5_isPlace_19
    · have hm := (if_neg h2).symm.trans hm
      refine lv_iconst (v := 1) hx hb dX5_isPlace_14 (by decide) ?_
      refine lv_goto (tgt := 19) hx hb dX5_isPlace_15 (by decide) ?_
      subst hm
      exact eb_zret X hw rfl rfl rfl rfl dX5_isPlace_19

set_option maxHeartbeats 4000000 in
set_option maxRecDepth 100000 in
theorem c_X5_whoRuns (l : Launch) (D : va_G) (cy : Nat → ClassId) (ad : Nat → Nat) (σ : eb_St)   : eb_M l yX5_whoRuns (Cond.code yX5_whoRuns cX5_whoRuns 1 (some (.object "EnclaveBoard$Registers")) :: wsL_law) 1 21 D 33 cy cL ad σ [.ref (ad 10)] (some (.ref (ad (19 + (m_X5_whoRuns σ))))) σ := by
  refine eb_start (own := RX5) (by decide) rfl rfl (Nat.le_of_ble_eq_true rfl) ?_
  intro p e s m args below meth c A ls X hw hl
  have hl : lv_has ls 1 [(0, .ref (ad 10))] := hl
  have hx := X.1.1
  have hb := X.1.2.1
  have hown := X.1.2.2.2.1
  have hts := X.1.2.2.2.2
  generalize hm : m_X5_whoRuns σ = mm
  have hm : (fun (z1 : Bool) => (if (eb_b z1) = 0 then 6 else (σ.1 10 6).toNatClampNeg)) (m_X5_isPlace ((σ.1 10 6).toInt64)) = mm := hm
  refine lv_aload_n hx hb dX5_whoRuns_0 rfl (lv_at hl 0 rfl) ?_
  refine eb_get (T := TX5) X hw 10 6 (by decide) ⟨rfl, rfl, rfl⟩ (by decide) (fun _ h => List.mem_cons_of_mem _ (inlX5 _ h)) (List.mem_cons_of_mem _ wi_4_11) (v := .int (σ.1 10 6)) rfl dX5_whoRuns_1 ?_
  refine lv_i2l (v := (σ.1 10 6).toInt64) hx hb dX5_whoRuns_4 rfl ?_
  obtain ⟨z1, qz1⟩ : ∃ t : Bool, t = m_X5_isPlace ((σ.1 10 6).toInt64) := ⟨_, rfl⟩
  have hm : (if (eb_b z1) = 0 then 6 else (σ.1 10 6).toNatClampNeg) = mm := by rw [qz1]; exact hm
  have hc : eb_M l yX5_isPlace (Cond.code yX5_isPlace cX5_isPlace 2 (some .boolean) :: wsL_law) 0 0 D 33 cy cL ad σ [.long ((σ.1 10 6).toInt64)] (some (.int (eb_b z1))) σ := by rw [qz1]; exact c_X5_isPlace l D cy ad σ ((σ.1 10 6).toInt64)
  refine eb_callS (n := 1) X hw hl.1 (rest := []) hc (eb_goodS wi_13_1 wi_13_2 wi_2_15 wi_13_3) rfl (by decide +kernel) ⟨by decide, by decide⟩ rfl rfl (Nat.le_of_ble_eq_true rfl) dX5_whoRuns_5 ⟨by decide, by decide⟩ (st' := [.int (eb_b z1)]) rfl (fun H locs hw => ?_)
  refine lv_if_eq (tgt := 26) hx hb dX5_whoRuns_8 (by decide) (fun h2 => ?_) (fun h2 => ?_)
  · have hm := (if_pos h2).symm.trans hm
    refine lv_aload_n hx hb dX5_whoRuns_26 rfl (lv_at hl 0 rfl) ?_
    refine eb_get (T := TX5) X hw 10 3 (by decide) ⟨rfl, rfl, rfl⟩ (by decide) (fun _ h => List.mem_cons_of_mem _ (inlX5 _ h)) (List.mem_cons_of_mem _ wi_4_15) (v := .ref (ad 25)) rfl dX5_whoRuns_27 ?_
    subst hm
    exact eb_aret X hw rfl rfl rfl dX5_whoRuns_30
  · have hm := (if_neg h2).symm.trans hm
    refine lv_aload_n hx hb dX5_whoRuns_11 rfl (lv_at hl 0 rfl) ?_
    refine eb_get (T := TX5) X hw 10 5 (by decide) ⟨rfl, rfl, rfl⟩ (by decide) (fun _ h => List.mem_cons_of_mem _ (inlX5 _ h)) (List.mem_cons_of_mem _ wi_4_10) (v := .ref (ad 12)) rfl dX5_whoRuns_12 ?_
    refine lv_aload_n hx hb dX5_whoRuns_15 rfl (lv_at hl 0 rfl) ?_
    refine eb_get (T := TX5) X hw 10 6 (by decide) ⟨rfl, rfl, rfl⟩ (by decide) (fun _ h => List.mem_cons_of_mem _ (inlX5 _ h)) (List.mem_cons_of_mem _ wi_4_11) (v := .int (σ.1 10 6)) rfl dX5_whoRuns_16 ?_
    have b3 : (σ.1 10 6).toNatClampNeg < 6 := Nat.not_le.mp (fun q => (show vp_in (σ.1 10 6) 6 from (l_isPlaceI (by rw [← qz1]; exact h2))) (Or.inr q))
    refine eb_aald (n := 6) X hw 12 (by decide) rfl rfl (l_isPlaceI (by rw [← qz1]; exact h2)) (a := 13 + ((σ.1 10 6).toNatClampNeg)) rfl dX5_whoRuns_19 ?_
    refine eb_get (T := TX2) X hw (13 + ((σ.1 10 6).toNatClampNeg)) 0 (by omega) (cE_i (by omega)) (by decide) (fun _ h => List.mem_cons_of_mem _ (inlX2 _ h)) (List.mem_cons_of_mem _ wi_14_10) (v := .ref (ad (19 + ((σ.1 10 6).toNatClampNeg)))) (eb_sR (cE_t (by omega) 0) (cE_g (by omega))) dX5_whoRuns_20 ?_
    refine lv_goto (tgt := 30) hx hb dX5_whoRuns_23 (by decide) ?_
    subst hm
    exact eb_aret X hw rfl rfl rfl dX5_whoRuns_30

set_option maxHeartbeats 4000000 in
set_option maxRecDepth 100000 in
theorem c_X5_mixed (l : Launch) (D : va_G) (cy : Nat → ClassId) (ad : Nat → Nat) (σ : eb_St) (a0 : Int64) (a1 : Int64)  : eb_M l yX5_mixed (Cond.code yX5_mixed cX5_mixed 4 (some .long) :: wsL_law) 0 0 D 33 cy cL ad σ [.long a0, .long a1] (some (.long (m_X5_mixed a0 a1))) σ := by
  refine eb_start (own := RX5) (by decide) rfl rfl (Nat.le_of_ble_eq_true rfl) ?_
  intro p e s m args below meth c A ls X hw hl
  have hl : lv_has ls 4 [(0, .long a0), (2, .long a1)] := hl
  have hx := X.1.1
  have hb := X.1.2.1
  have hown := X.1.2.2.2.1
  have hts := X.1.2.2.2.2
  generalize hm : m_X5_mixed a0 a1 = mm
  have hm : (a0 ^^^ a1) * 1099511628211 = mm := hm
  refine lv_lload_n hx hb dX5_mixed_0 rfl (lv_at hl 0 rfl) ?_
  refine lv_lload_n hx hb dX5_mixed_1 rfl (lv_at hl 1 rfl) ?_
  refine lv_lxor hx hb dX5_mixed_2 ?_
  refine lv_ldc2 hx hb hown (hts _ (List.mem_cons_of_mem _ wi_27_1)) dX5_mixed_3 ?_
  refine lv_lmul hx hb dX5_mixed_6 ?_
  subst hm
  exact eb_lret X hw rfl rfl rfl dX5_mixed_7

set_option maxHeartbeats 4000000 in
set_option maxRecDepth 100000 in
theorem k_X5_mixedNumber_6 {p : Program} {l : Launch} {e : Env} {s : State} {m : MethodId} {args : Array Value} {below : List Frame} {meth : Method} {c : Code} {A : Nat → Prop} {D : va_G} {cy : Nat → ClassId} {ad : Nat → Nat} (X : eb_X p s m args meth c cX5_mixedNumber 7 RX5 (Cond.code yX5_mixedNumber cX5_mixedNumber 7 (some .long) :: wsL_law) (some .long) D cy A)   : ∀ (n : Nat) (σ : eb_St) (v2 : Int64) (v4 : Int64) (v6 : Int32)  (i0_ : 0 ≤ v6.toInt) (hn : ((8 : Int32).toInt - v6.toInt).toNat < n) {H : Heap} {locs : List Loc} {ls : Array Slot} {mm : Int64} (_ : (m_X5_mixedNumber_6  n v2 v4 v6) = mm) (hw : eb_H D 33 cy cL ad A s.heap σ H locs) (hl : lv_has ls 7 [(2, .long v2), (4, .long v4), (6, .int v6)]), W p l e ({ frames := 1, cells := 0, slots := 0, locals := 23 } : Room) s m args below meth c H locs 0 0 (MQ below (eb_Q D 33 cy cL ad A (some (.long mm)) σ) args s 0 0 A) (F0 m 6 ls []) := by
  have hx := X.1.1
  have hb := X.1.2.1
  have hown := X.1.2.2.2.1
  have hts := X.1.2.2.2.2
  intro n
  induction n with
  | zero => intro σ v2 v4 v6 i0_ hn; exact absurd hn (Nat.not_lt_zero _)
  | succ n ih =>
    intro σ v2 v4 v6 i0_ hn H locs ls mm hm hw hl
    have hm : (if (8 : Int32) ≤ v6 then v4 else (fun (z2 : Int64) => (fun (x3 : Int32) => m_X5_mixedNumber_6  n v2 z2 x3) (v6 + 1)) (m_X5_mixed v4 ((eb_lushr v2 (8 * v6)) &&& 255))) = mm := hm
    refine lv_iload hx hb dX5_mixedNumber_6 (lv_at hl 2 rfl) ?_
    refine lv_bipush (v := 8) hx hb dX5_mixedNumber_8 (by decide) ?_
    refine lv_icmp_ge (tgt := 37) hx hb dX5_mixedNumber_10 (by decide) (fun h1 => ?_) (fun h1 => ?_)
    · have hm := (if_pos h1).symm.trans hm
      refine lv_lload hx hb dX5_mixedNumber_37 (lv_at hl 1 rfl) ?_
      subst hm
      exact eb_lret X hw rfl rfl rfl dX5_mixedNumber_39
    · have hm := (if_neg h1).symm.trans hm
      refine lv_lload hx hb dX5_mixedNumber_13 (lv_at hl 1 rfl) ?_
      refine lv_lload_n hx hb dX5_mixedNumber_15 rfl (lv_at hl 0 rfl) ?_
      refine lv_bipush (v := 8) hx hb dX5_mixedNumber_16 (by decide) ?_
      refine lv_iload hx hb dX5_mixedNumber_18 (lv_at hl 2 rfl) ?_
      refine lv_imul hx hb dX5_mixedNumber_20 ?_
      refine lv_lushr (v := eb_lushr v2 (8 * v6)) hx hb dX5_mixedNumber_21 rfl ?_
      refine lv_ldc2 hx hb hown (hts _ (List.mem_cons_of_mem _ wi_27_5)) dX5_mixedNumber_22 ?_
      refine lv_land hx hb dX5_mixedNumber_25 ?_
      obtain ⟨z2, qz2⟩ : ∃ t : Int64, t = m_X5_mixed v4 ((eb_lushr v2 (8 * v6)) &&& 255) := ⟨_, rfl⟩
      have hm : (fun (x3 : Int32) => m_X5_mixedNumber_6  n v2 z2 x3) (v6 + 1) = mm := by rw [qz2]; exact hm
      have hc : eb_M l yX5_mixed (Cond.code yX5_mixed cX5_mixed 4 (some .long) :: wsL_law) 0 0 D 33 cy cL ad σ [.long v4, .long ((eb_lushr v2 (8 * v6)) &&& 255)] (some (.long z2)) σ := by rw [qz2]; exact c_X5_mixed l D cy ad σ v4 ((eb_lushr v2 (8 * v6)) &&& 255)
      refine eb_callS (n := 2) X hw hl.1 (rest := []) hc (eb_goodS wi_26_22 wi_26_23 wi_2_15 wi_27_0) rfl (by decide +kernel) ⟨by decide, by decide⟩ rfl rfl (Nat.le_of_ble_eq_true rfl) dX5_mixedNumber_26 ⟨by decide, by decide⟩ (st' := [.long z2]) rfl (fun H locs hw => ?_)
      refine lv_lstore (lv' := [(4, .long z2), (2, .long v2), (6, .int v6)]) hx hb dX5_mixedNumber_29 hl (by decide) rfl (fun ls hl => ?_)
      obtain ⟨x3, ex3⟩ : ∃ z : Int32, z = v6 + 1 := ⟨_, rfl⟩
      have hm : m_X5_mixedNumber_6  n v2 z2 x3 = mm := by rw [ex3]; exact hm
      refine lv_iinc (v := x3) (lv' := [(6, .int x3), (4, .long z2), (2, .long v2)]) hx hb dX5_mixedNumber_31 hl (k := 2) rfl (by rw [ex3]; exact congrArg (v6 + ·) (by decide)) (by decide) rfl (fun ls hl => ?_)
      refine lv_goto (tgt := 6) hx hb dX5_mixedNumber_34 (by decide) ?_
      exact ih σ v2 z2 x3 (eb_up i0_ (eb_nle h1) ex3 hn).1 (eb_up i0_ (eb_nle h1) ex3 hn).2 hm hw (lv_sub hl [2, 1, 0] rfl)
set_option maxHeartbeats 4000000 in
set_option maxRecDepth 100000 in
theorem c_X5_mixedNumber (l : Launch) (D : va_G) (cy : Nat → ClassId) (ad : Nat → Nat) (σ : eb_St) (a0 : Int64) (a1 : Int64)  : eb_M l yX5_mixedNumber (Cond.code yX5_mixedNumber cX5_mixedNumber 7 (some .long) :: wsL_law) 1 23 D 33 cy cL ad σ [.long a0, .long a1] (some (.long (m_X5_mixedNumber a0 a1))) σ := by
  refine eb_start (own := RX5) (by decide) rfl rfl (Nat.le_of_ble_eq_true rfl) ?_
  intro p e s m args below meth c A ls X hw hl
  have hl : lv_has ls 7 [(0, .long a0), (2, .long a1)] := hl
  have hx := X.1.1
  have hb := X.1.2.1
  have hown := X.1.2.2.2.1
  have hts := X.1.2.2.2.2
  generalize hm : m_X5_mixedNumber a0 a1 = mm
  have hm : m_X5_mixedNumber_6  9 a1 a0 0 = mm := hm
  refine lv_lload_n hx hb dX5_mixedNumber_0 rfl (lv_at hl 0 rfl) ?_
  refine lv_lstore (lv' := [(4, .long a0), (0, .long a0), (2, .long a1)]) hx hb dX5_mixedNumber_1 hl (by decide) rfl (fun ls hl => ?_)
  refine lv_iconst (v := 0) hx hb dX5_mixedNumber_3 (by decide) ?_
  refine lv_istore (lv' := [(6, .int 0), (4, .long a0), (0, .long a0), (2, .long a1)]) hx hb dX5_mixedNumber_4 hl (by decide) rfl (fun ls hl => ?_)
  exact k_X5_mixedNumber_6 X   9 σ a1 a0 0 (by decide) (by decide) hm hw (lv_sub hl [3, 1, 0] rfl)

set_option maxHeartbeats 4000000 in
set_option maxRecDepth 100000 in
theorem k_X5_measureOfRequest_26 {p : Program} {l : Launch} {e : Env} {s : State} {m : MethodId} {args : Array Value} {below : List Frame} {meth : Method} {c : Code} {A : Nat → Prop} {D : va_G} {cy : Nat → ClassId} {ad : Nat → Nat} (X : eb_X p s m args meth c cX5_measureOfRequest 6 RX5 (Cond.code yX5_measureOfRequest cX5_measureOfRequest 6 (some .long) :: wsL_law) (some .long) D cy A)   : ∀ (n : Nat) (σ : eb_St) (v1 : Int64) (v3 : Int32) (v4 : Int32) (v5 : Int32)   (hn : (v4.toInt - v5.toInt).toNat < n) {H : Heap} {locs : List Loc} {ls : Array Slot} {mm : Int64} (_ : (m_X5_measureOfRequest_26  n σ v1 v3 v4 v5) = mm) (hw : eb_H D 33 cy cL ad A s.heap σ H locs) (hl : lv_has ls 6 [(0, .ref (ad 10)), (1, .long v1), (3, .int v3), (4, .int v4), (5, .int v5)]), W p l e ({ frames := 2, cells := 0, slots := 0, locals := 49 } : Room) s m args below meth c H locs 0 0 (MQ below (eb_Q D 33 cy cL ad A (some (.long mm)) σ) args s 0 0 A) (F0 m 26 ls []) := by
  have hx := X.1.1
  have hb := X.1.2.1
  have hown := X.1.2.2.2.1
  have hts := X.1.2.2.2.2
  intro n
  induction n with
  | zero => intro σ v1 v3 v4 v5  hn; exact absurd hn (Nat.not_lt_zero _)
  | succ n ih =>
    intro σ v1 v3 v4 v5  hn H locs ls mm hm hw hl
    have hm : (if v4 ≤ v5 then (fun (z4 : Int64) => (fun (z5 : Int64) => (fun (z6 : Int64) => z6) (m_X5_mixedNumber z5 (σ.2 11 6))) (m_X5_mixedNumber z4 (σ.2 11 4))) (m_X5_mixedNumber v1 (σ.2 11 1)) else (fun (z7 : Int64) => (fun (z8 : Int64) => (fun (x9 : Int32) => m_X5_measureOfRequest_26  n σ z8 v3 v4 x9) (v5 + 1)) (m_X5_mixed v1 z7)) (m_X4_load σ (v3 + v5) 1)) = mm := hm
    refine lv_iload hx hb dX5_measureOfRequest_26 (lv_at hl 4 rfl) ?_
    refine lv_iload hx hb dX5_measureOfRequest_28 (lv_at hl 3 rfl) ?_
    refine lv_icmp_ge (tgt := 56) hx hb dX5_measureOfRequest_30 (by decide) (fun h3 => ?_) (fun h3 => ?_)
    · have hm := (if_pos h3).symm.trans hm
      refine lv_lload_n hx hb dX5_measureOfRequest_56 rfl (lv_at hl 1 rfl) ?_
      refine lv_aload_n hx hb dX5_measureOfRequest_57 rfl (lv_at hl 0 rfl) ?_
      refine eb_get (T := TX5) X hw 10 4 (by decide) ⟨rfl, rfl, rfl⟩ (by decide) (fun _ h => List.mem_cons_of_mem _ (inlX5 _ h)) (List.mem_cons_of_mem _ wi_4_8) (v := .ref (ad 11)) rfl dX5_measureOfRequest_58 ?_
      refine eb_get (T := TX8) X hw 11 1 (by decide) ⟨rfl, rfl, rfl⟩ (by decide) (fun _ h => List.mem_cons_of_mem _ (inlX8 _ h)) (List.mem_cons_of_mem _ wi_25_15) (v := .long (σ.2 11 1)) rfl dX5_measureOfRequest_61 ?_
      obtain ⟨z4, qz4⟩ : ∃ t : Int64, t = m_X5_mixedNumber v1 (σ.2 11 1) := ⟨_, rfl⟩
      have hm : (fun (z5 : Int64) => (fun (z6 : Int64) => z6) (m_X5_mixedNumber z5 (σ.2 11 6))) (m_X5_mixedNumber z4 (σ.2 11 4)) = mm := by rw [qz4]; exact hm
      have hc : eb_M l yX5_mixedNumber (Cond.code yX5_mixedNumber cX5_mixedNumber 7 (some .long) :: wsL_law) 1 23 D 33 cy cL ad σ [.long v1, .long (σ.2 11 1)] (some (.long z4)) σ := by rw [qz4]; exact c_X5_mixedNumber l D cy ad σ v1 (σ.2 11 1)
      refine eb_callS (n := 2) X hw hl.1 (rest := []) hc (eb_goodS wi_27_2 wi_27_3 wi_2_15 wi_27_4) rfl (by decide +kernel) ⟨by decide, by decide⟩ rfl rfl (Nat.le_of_ble_eq_true rfl) dX5_measureOfRequest_64 ⟨by decide, by decide⟩ (st' := [.long z4]) rfl (fun H locs hw => ?_)
      refine lv_lstore_n (lv' := [(1, .long z4), (0, .ref (ad 10)), (3, .int v3), (4, .int v4), (5, .int v5)]) hx hb dX5_measureOfRequest_67 rfl hl (by decide) rfl (fun ls hl => ?_)
      refine lv_lload_n hx hb dX5_measureOfRequest_68 rfl (lv_at hl 0 rfl) ?_
      refine lv_aload_n hx hb dX5_measureOfRequest_69 rfl (lv_at hl 1 rfl) ?_
      refine eb_get (T := TX5) X hw 10 4 (by decide) ⟨rfl, rfl, rfl⟩ (by decide) (fun _ h => List.mem_cons_of_mem _ (inlX5 _ h)) (List.mem_cons_of_mem _ wi_4_8) (v := .ref (ad 11)) rfl dX5_measureOfRequest_70 ?_
      refine eb_get (T := TX8) X hw 11 4 (by decide) ⟨rfl, rfl, rfl⟩ (by decide) (fun _ h => List.mem_cons_of_mem _ (inlX8 _ h)) (List.mem_cons_of_mem _ wi_26_20) (v := .long (σ.2 11 4)) rfl dX5_measureOfRequest_73 ?_
      obtain ⟨z5, qz5⟩ : ∃ t : Int64, t = m_X5_mixedNumber z4 (σ.2 11 4) := ⟨_, rfl⟩
      have hm : (fun (z6 : Int64) => z6) (m_X5_mixedNumber z5 (σ.2 11 6)) = mm := by rw [qz5]; exact hm
      have hc : eb_M l yX5_mixedNumber (Cond.code yX5_mixedNumber cX5_mixedNumber 7 (some .long) :: wsL_law) 1 23 D 33 cy cL ad σ [.long z4, .long (σ.2 11 4)] (some (.long z5)) σ := by rw [qz5]; exact c_X5_mixedNumber l D cy ad σ z4 (σ.2 11 4)
      refine eb_callS (n := 2) X hw hl.1 (rest := []) hc (eb_goodS wi_27_2 wi_27_3 wi_2_15 wi_27_4) rfl (by decide +kernel) ⟨by decide, by decide⟩ rfl rfl (Nat.le_of_ble_eq_true rfl) dX5_measureOfRequest_76 ⟨by decide, by decide⟩ (st' := [.long z5]) rfl (fun H locs hw => ?_)
      refine lv_lstore_n (lv' := [(1, .long z5), (0, .ref (ad 10)), (3, .int v3), (4, .int v4), (5, .int v5)]) hx hb dX5_measureOfRequest_79 rfl hl (by decide) rfl (fun ls hl => ?_)
      refine lv_lload_n hx hb dX5_measureOfRequest_80 rfl (lv_at hl 0 rfl) ?_
      refine lv_aload_n hx hb dX5_measureOfRequest_81 rfl (lv_at hl 1 rfl) ?_
      refine eb_get (T := TX5) X hw 10 4 (by decide) ⟨rfl, rfl, rfl⟩ (by decide) (fun _ h => List.mem_cons_of_mem _ (inlX5 _ h)) (List.mem_cons_of_mem _ wi_4_8) (v := .ref (ad 11)) rfl dX5_measureOfRequest_82 ?_
      refine eb_get (T := TX8) X hw 11 6 (by decide) ⟨rfl, rfl, rfl⟩ (by decide) (fun _ h => List.mem_cons_of_mem _ (inlX8 _ h)) (List.mem_cons_of_mem _ wi_25_16) (v := .long (σ.2 11 6)) rfl dX5_measureOfRequest_85 ?_
      obtain ⟨z6, qz6⟩ : ∃ t : Int64, t = m_X5_mixedNumber z5 (σ.2 11 6) := ⟨_, rfl⟩
      have hm : z6 = mm := by rw [qz6]; exact hm
      have hc : eb_M l yX5_mixedNumber (Cond.code yX5_mixedNumber cX5_mixedNumber 7 (some .long) :: wsL_law) 1 23 D 33 cy cL ad σ [.long z5, .long (σ.2 11 6)] (some (.long z6)) σ := by rw [qz6]; exact c_X5_mixedNumber l D cy ad σ z5 (σ.2 11 6)
      refine eb_callS (n := 2) X hw hl.1 (rest := []) hc (eb_goodS wi_27_2 wi_27_3 wi_2_15 wi_27_4) rfl (by decide +kernel) ⟨by decide, by decide⟩ rfl rfl (Nat.le_of_ble_eq_true rfl) dX5_measureOfRequest_88 ⟨by decide, by decide⟩ (st' := [.long z6]) rfl (fun H locs hw => ?_)
      subst hm
      exact eb_lret X hw rfl rfl rfl dX5_measureOfRequest_91
    · have hm := (if_neg h3).symm.trans hm
      refine lv_lload_n hx hb dX5_measureOfRequest_33 rfl (lv_at hl 1 rfl) ?_
      refine lv_aload_n hx hb dX5_measureOfRequest_34 rfl (lv_at hl 0 rfl) ?_
      refine eb_get (T := TX5) X hw 10 1 (by decide) ⟨rfl, rfl, rfl⟩ (by decide) (fun _ h => List.mem_cons_of_mem _ (inlX5 _ h)) (List.mem_cons_of_mem _ wi_4_13) (v := .ref (ad 1)) rfl dX5_measureOfRequest_35 ?_
      refine lv_iload_n hx hb dX5_measureOfRequest_38 rfl (lv_at hl 2 rfl) ?_
      refine lv_iload hx hb dX5_measureOfRequest_39 (lv_at hl 4 rfl) ?_
      refine lv_iadd hx hb dX5_measureOfRequest_41 ?_
      refine lv_iconst (v := 1) hx hb dX5_measureOfRequest_42 (by decide) ?_
      obtain ⟨z7, qz7⟩ : ∃ t : Int64, t = m_X4_load σ (v3 + v5) 1 := ⟨_, rfl⟩
      have hm : (fun (z8 : Int64) => (fun (x9 : Int32) => m_X5_measureOfRequest_26  n σ z8 v3 v4 x9) (v5 + 1)) (m_X5_mixed v1 z7) = mm := by rw [qz7]; exact hm
      have hc : eb_M l yX4_load (Cond.code yX4_load cX4_load 3 (some .long) :: wsL_law) 1 20 D 33 cy cL ad σ [.ref (ad 1), .int (v3 + v5), .int 1] (some (.long z7)) σ := by rw [qz7]; exact c_X4_load l D cy ad σ (v3 + v5) 1
      refine eb_callV (n := 2) (as := [.int (v3 + v5), .int 1]) (rest := [.long v1]) X hw hl.1 1 hc (by decide) ⟨rfl, rfl, rfl⟩ (eb_goodV wi_26_21 wi_11_17 wi_11_18 wi_1_19 wi_11_19) rfl (by decide +kernel) ⟨by decide, by decide⟩ rfl rfl (Nat.le_of_ble_eq_true rfl) dX5_measureOfRequest_43 ⟨by decide, by decide⟩ (st' := [.long z7, .long v1]) rfl (fun H locs hw => ?_)
      obtain ⟨z8, qz8⟩ : ∃ t : Int64, t = m_X5_mixed v1 z7 := ⟨_, rfl⟩
      have hm : (fun (x9 : Int32) => m_X5_measureOfRequest_26  n σ z8 v3 v4 x9) (v5 + 1) = mm := by rw [qz8]; exact hm
      have hc : eb_M l yX5_mixed (Cond.code yX5_mixed cX5_mixed 4 (some .long) :: wsL_law) 0 0 D 33 cy cL ad σ [.long v1, .long z7] (some (.long z8)) σ := by rw [qz8]; exact c_X5_mixed l D cy ad σ v1 z7
      refine eb_callS (n := 2) X hw hl.1 (rest := []) hc (eb_goodS wi_26_22 wi_26_23 wi_2_15 wi_27_0) rfl (by decide +kernel) ⟨by decide, by decide⟩ rfl rfl (Nat.le_of_ble_eq_true rfl) dX5_measureOfRequest_46 ⟨by decide, by decide⟩ (st' := [.long z8]) rfl (fun H locs hw => ?_)
      refine lv_lstore_n (lv' := [(1, .long z8), (0, .ref (ad 10)), (3, .int v3), (4, .int v4), (5, .int v5)]) hx hb dX5_measureOfRequest_49 rfl hl (by decide) rfl (fun ls hl => ?_)
      obtain ⟨x9, ex9⟩ : ∃ z : Int32, z = v5 + 1 := ⟨_, rfl⟩
      have hm : m_X5_measureOfRequest_26  n σ z8 v3 v4 x9 = mm := by rw [ex9]; exact hm
      refine lv_iinc (v := x9) (lv' := [(5, .int x9), (1, .long z8), (0, .ref (ad 10)), (3, .int v3), (4, .int v4)]) hx hb dX5_measureOfRequest_50 hl (k := 4) rfl (by rw [ex9]; exact congrArg (v5 + ·) (by decide)) (by decide) rfl (fun ls hl => ?_)
      refine lv_goto (tgt := 26) hx hb dX5_measureOfRequest_53 (by decide) ?_
      exact ih σ z8 v3 v4 x9 (eb_up1 (eb_nle h3) ex9 hn) hm hw (lv_sub hl [2, 1, 3, 4, 0] rfl)
set_option maxHeartbeats 4000000 in
set_option maxRecDepth 100000 in
theorem c_X5_measureOfRequest (l : Launch) (D : va_G) (cy : Nat → ClassId) (ad : Nat → Nat) (σ : eb_St)   : eb_M l yX5_measureOfRequest (Cond.code yX5_measureOfRequest cX5_measureOfRequest 6 (some .long) :: wsL_law) 2 49 D 33 cy cL ad σ [.ref (ad 10)] (some (.long (m_X5_measureOfRequest σ))) σ := by
  refine eb_start (own := RX5) (by decide) rfl rfl (Nat.le_of_ble_eq_true rfl) ?_
  intro p e s m args below meth c A ls X hw hl
  have hl : lv_has ls 6 [(0, .ref (ad 10))] := hl
  have hx := X.1.1
  have hb := X.1.2.1
  have hown := X.1.2.2.2.1
  have hts := X.1.2.2.2.2
  generalize hm : m_X5_measureOfRequest σ = mm
  have hm : (fun (x1 : Int32) => (fun (x2 : Int32) => m_X5_measureOfRequest_26  ((x2.toInt - (0 : Int32).toInt).toNat + 1) σ (-3750763034362895579) x1 x2 0) ((σ.2 11 3).toInt32)) ((σ.2 11 2).toInt32) = mm := hm
  refine lv_ldc2 hx hb hown (hts _ (List.mem_cons_of_mem _ wi_26_19)) dX5_measureOfRequest_0 ?_
  refine lv_lstore_n (lv' := [(1, .long (-3750763034362895579)), (0, .ref (ad 10))]) hx hb dX5_measureOfRequest_3 rfl hl (by decide) rfl (fun ls hl => ?_)
  refine lv_aload_n hx hb dX5_measureOfRequest_4 rfl (lv_at hl 1 rfl) ?_
  refine eb_get (T := TX5) X hw 10 4 (by decide) ⟨rfl, rfl, rfl⟩ (by decide) (fun _ h => List.mem_cons_of_mem _ (inlX5 _ h)) (List.mem_cons_of_mem _ wi_4_8) (v := .ref (ad 11)) rfl dX5_measureOfRequest_5 ?_
  refine eb_get (T := TX8) X hw 11 2 (by decide) ⟨rfl, rfl, rfl⟩ (by decide) (fun _ h => List.mem_cons_of_mem _ (inlX8 _ h)) (List.mem_cons_of_mem _ wi_24_4) (v := .long (σ.2 11 2)) rfl dX5_measureOfRequest_8 ?_
  refine lv_l2i (v := (σ.2 11 2).toInt32) hx hb dX5_measureOfRequest_11 rfl ?_
  refine lv_topi (fun x1 ex1 => ?_)
  have hm : (fun (x2 : Int32) => m_X5_measureOfRequest_26  ((x2.toInt - (0 : Int32).toInt).toNat + 1) σ (-3750763034362895579) x1 x2 0) ((σ.2 11 3).toInt32) = mm := by rw [ex1]; exact hm
  refine lv_istore_n (lv' := [(3, .int x1), (1, .long (-3750763034362895579)), (0, .ref (ad 10))]) hx hb dX5_measureOfRequest_12 rfl hl (by decide) rfl (fun ls hl => ?_)
  refine lv_aload_n hx hb dX5_measureOfRequest_13 rfl (lv_at hl 2 rfl) ?_
  refine eb_get (T := TX5) X hw 10 4 (by decide) ⟨rfl, rfl, rfl⟩ (by decide) (fun _ h => List.mem_cons_of_mem _ (inlX5 _ h)) (List.mem_cons_of_mem _ wi_4_8) (v := .ref (ad 11)) rfl dX5_measureOfRequest_14 ?_
  refine eb_get (T := TX8) X hw 11 3 (by decide) ⟨rfl, rfl, rfl⟩ (by decide) (fun _ h => List.mem_cons_of_mem _ (inlX8 _ h)) (List.mem_cons_of_mem _ wi_24_3) (v := .long (σ.2 11 3)) rfl dX5_measureOfRequest_17 ?_
  refine lv_l2i (v := (σ.2 11 3).toInt32) hx hb dX5_measureOfRequest_20 rfl ?_
  refine lv_topi (fun x2 ex2 => ?_)
  have hm : m_X5_measureOfRequest_26  ((x2.toInt - (0 : Int32).toInt).toNat + 1) σ (-3750763034362895579) x1 x2 0 = mm := by rw [ex2]; exact hm
  refine lv_istore (lv' := [(4, .int x2), (3, .int x1), (1, .long (-3750763034362895579)), (0, .ref (ad 10))]) hx hb dX5_measureOfRequest_21 hl (by decide) rfl (fun ls hl => ?_)
  refine lv_iconst (v := 0) hx hb dX5_measureOfRequest_23 (by decide) ?_
  refine lv_istore (lv' := [(5, .int 0), (4, .int x2), (3, .int x1), (1, .long (-3750763034362895579)), (0, .ref (ad 10))]) hx hb dX5_measureOfRequest_24 hl (by decide) rfl (fun ls hl => ?_)
  exact k_X5_measureOfRequest_26 X   ((x2.toInt - (0 : Int32).toInt).toNat + 1) σ (-3750763034362895579) x1 x2 0 (Nat.lt_succ_self _) hm hw (lv_sub hl [4, 3, 2, 1, 0] rfl)

set_option maxHeartbeats 4000000 in
set_option maxRecDepth 100000 in
theorem c_X5_keyOf (l : Launch) (D : va_G) (cy : Nat → ClassId) (ad : Nat → Nat) (σ : eb_St) (a0 : Int64)  : eb_M l yX5_keyOf (Cond.code yX5_keyOf cX5_keyOf 5 (some .long) :: wsL_law) 0 0 D 33 cy cL ad σ [.ref (ad 10), .long a0] (some (.long (m_X5_keyOf σ a0))) σ := by
  refine eb_start (own := RX5) (by decide) rfl rfl (Nat.le_of_ble_eq_true rfl) ?_
  intro p e s m args below meth c A ls X hw hl
  have hl : lv_has ls 5 [(0, .ref (ad 10)), (1, .long a0)] := hl
  have hx := X.1.1
  have hb := X.1.2.1
  have hown := X.1.2.2.2.1
  have hts := X.1.2.2.2.2
  generalize hm : m_X5_keyOf σ a0 = mm
  have hm : (fun (x1 : Int64) => (fun (x2 : Int64) => (fun (x3 : Int64) => x3 ^^^ (eb_lushr x3 33)) ((x2 ^^^ (eb_lushr x2 33)) * (-4265267296055464877))) ((x1 ^^^ (eb_lushr x1 33)) * (-49064778989728563))) ((σ.2 10 0) ^^^ a0) = mm := hm
  refine lv_aload_n hx hb dX5_keyOf_0 rfl (lv_at hl 0 rfl) ?_
  refine eb_get (T := TX5) X hw 10 0 (by decide) ⟨rfl, rfl, rfl⟩ (by decide) (fun _ h => List.mem_cons_of_mem _ (inlX5 _ h)) (List.mem_cons_of_mem _ wi_4_12) (v := .long (σ.2 10 0)) rfl dX5_keyOf_1 ?_
  refine lv_lload_n hx hb dX5_keyOf_4 rfl (lv_at hl 1 rfl) ?_
  refine lv_lxor hx hb dX5_keyOf_5 ?_
  refine lv_topl (fun x1 ex1 => ?_)
  have hm : (fun (x2 : Int64) => (fun (x3 : Int64) => x3 ^^^ (eb_lushr x3 33)) ((x2 ^^^ (eb_lushr x2 33)) * (-4265267296055464877))) ((x1 ^^^ (eb_lushr x1 33)) * (-49064778989728563)) = mm := by rw [ex1]; exact hm
  refine lv_lstore_n (lv' := [(3, .long x1), (0, .ref (ad 10)), (1, .long a0)]) hx hb dX5_keyOf_6 rfl hl (by decide) rfl (fun ls hl => ?_)
  refine lv_lload_n hx hb dX5_keyOf_7 rfl (lv_at hl 0 rfl) ?_
  refine lv_lload_n hx hb dX5_keyOf_8 rfl (lv_at hl 0 rfl) ?_
  refine lv_bipush (v := 33) hx hb dX5_keyOf_9 (by decide) ?_
  refine lv_lushr (v := eb_lushr x1 33) hx hb dX5_keyOf_11 rfl ?_
  refine lv_lxor hx hb dX5_keyOf_12 ?_
  refine lv_ldc2 hx hb hown (hts _ (List.mem_cons_of_mem _ wi_27_10)) dX5_keyOf_13 ?_
  refine lv_lmul hx hb dX5_keyOf_16 ?_
  refine lv_topl (fun x2 ex2 => ?_)
  have hm : (fun (x3 : Int64) => x3 ^^^ (eb_lushr x3 33)) ((x2 ^^^ (eb_lushr x2 33)) * (-4265267296055464877)) = mm := by rw [ex2]; exact hm
  refine lv_lstore_n (lv' := [(3, .long x2), (0, .ref (ad 10)), (1, .long a0)]) hx hb dX5_keyOf_17 rfl hl (by decide) rfl (fun ls hl => ?_)
  refine lv_lload_n hx hb dX5_keyOf_18 rfl (lv_at hl 0 rfl) ?_
  refine lv_lload_n hx hb dX5_keyOf_19 rfl (lv_at hl 0 rfl) ?_
  refine lv_bipush (v := 33) hx hb dX5_keyOf_20 (by decide) ?_
  refine lv_lushr (v := eb_lushr x2 33) hx hb dX5_keyOf_22 rfl ?_
  refine lv_lxor hx hb dX5_keyOf_23 ?_
  refine lv_ldc2 hx hb hown (hts _ (List.mem_cons_of_mem _ wi_27_11)) dX5_keyOf_24 ?_
  refine lv_lmul hx hb dX5_keyOf_27 ?_
  refine lv_topl (fun x3 ex3 => ?_)
  have hm : x3 ^^^ (eb_lushr x3 33) = mm := by rw [ex3]; exact hm
  refine lv_lstore_n (lv' := [(3, .long x3), (0, .ref (ad 10)), (1, .long a0)]) hx hb dX5_keyOf_28 rfl hl (by decide) rfl (fun ls hl => ?_)
  refine lv_lload_n hx hb dX5_keyOf_29 rfl (lv_at hl 0 rfl) ?_
  refine lv_lload_n hx hb dX5_keyOf_30 rfl (lv_at hl 0 rfl) ?_
  refine lv_bipush (v := 33) hx hb dX5_keyOf_31 (by decide) ?_
  refine lv_lushr (v := eb_lushr x3 33) hx hb dX5_keyOf_33 rfl ?_
  refine lv_lxor hx hb dX5_keyOf_34 ?_
  subst hm
  exact eb_lret X hw rfl rfl rfl dX5_keyOf_35

set_option maxHeartbeats 4000000 in
set_option maxRecDepth 100000 in
theorem c_X5_remove (l : Launch) (D : va_G) (cy : Nat → ClassId) (ad : Nat → Nat) (σ : eb_St) (a0 : Nat) (ba0 : a0 < 6) : eb_M l yX5_remove (Cond.code yX5_remove cX5_remove 2 none :: wsL_law) 3 70 D 33 cy cL ad σ [.ref (ad 10), .ref (ad (13 + a0))] (none) (m_X5_remove σ a0) := by
  refine eb_start (own := RX5) (by decide) rfl rfl (Nat.le_of_ble_eq_true rfl) ?_
  intro p e s m args below meth c A ls X hw hl
  have hl : lv_has ls 2 [(0, .ref (ad 10)), (1, .ref (ad (13 + a0)))] := hl
  have hx := X.1.1
  have hb := X.1.2.1
  have hown := X.1.2.2.2.1
  have hts := X.1.2.2.2.2
  generalize hm : m_X5_remove σ a0 = mm
  have hm : (if (σ.1 (13 + a0) 1) = 0 then σ else (fun (z2 : eb_St) => eb_pI z2 (13 + a0) 1 0) (m_X4_zero σ (σ.1 (13 + a0) 2) ((σ.1 (13 + a0) 2) + (σ.1 (13 + a0) 3)))) = mm := hm
  refine lv_aload_n hx hb dX5_remove_0 rfl (lv_at hl 1 rfl) ?_
  refine eb_get (T := TX2) X hw (13 + a0) 1 (by omega) (cE_i (by omega)) (by decide) (fun _ h => List.mem_cons_of_mem _ (inlX2 _ h)) (List.mem_cons_of_mem _ wi_7_0) (v := .int (σ.1 (13 + a0) 1)) (eb_sI (cE_t (by omega) 1)) dX5_remove_1 ?_
  refine lv_if_eq (tgt := 32) hx hb dX5_remove_4 (by decide) (fun h1 => ?_) (fun h1 => ?_)
  · have hm := (if_pos h1).symm.trans hm
    subst hm
    exact eb_vret X hw rfl rfl dX5_remove_32
  · have hm := (if_neg h1).symm.trans hm
    refine lv_aload_n hx hb dX5_remove_7 rfl (lv_at hl 0 rfl) ?_
    refine eb_get (T := TX5) X hw 10 1 (by decide) ⟨rfl, rfl, rfl⟩ (by decide) (fun _ h => List.mem_cons_of_mem _ (inlX5 _ h)) (List.mem_cons_of_mem _ wi_4_13) (v := .ref (ad 1)) rfl dX5_remove_8 ?_
    refine lv_aload_n hx hb dX5_remove_11 rfl (lv_at hl 1 rfl) ?_
    refine eb_get (T := TX2) X hw (13 + a0) 2 (by omega) (cE_i (by omega)) (by decide) (fun _ h => List.mem_cons_of_mem _ (inlX2 _ h)) (List.mem_cons_of_mem _ wi_7_1) (v := .int (σ.1 (13 + a0) 2)) (eb_sI (cE_t (by omega) 2)) dX5_remove_12 ?_
    refine lv_aload_n hx hb dX5_remove_15 rfl (lv_at hl 1 rfl) ?_
    refine eb_get (T := TX2) X hw (13 + a0) 2 (by omega) (cE_i (by omega)) (by decide) (fun _ h => List.mem_cons_of_mem _ (inlX2 _ h)) (List.mem_cons_of_mem _ wi_7_1) (v := .int (σ.1 (13 + a0) 2)) (eb_sI (cE_t (by omega) 2)) dX5_remove_16 ?_
    refine lv_aload_n hx hb dX5_remove_19 rfl (lv_at hl 1 rfl) ?_
    refine eb_get (T := TX2) X hw (13 + a0) 3 (by omega) (cE_i (by omega)) (by decide) (fun _ h => List.mem_cons_of_mem _ (inlX2 _ h)) (List.mem_cons_of_mem _ wi_7_2) (v := .int (σ.1 (13 + a0) 3)) (eb_sI (cE_t (by omega) 3)) dX5_remove_20 ?_
    refine lv_iadd hx hb dX5_remove_23 ?_
    obtain ⟨z2, qz2⟩ : ∃ t : eb_St, t = m_X4_zero σ (σ.1 (13 + a0) 2) ((σ.1 (13 + a0) 2) + (σ.1 (13 + a0) 3)) := ⟨_, rfl⟩
    have hm : eb_pI z2 (13 + a0) 1 0 = mm := by rw [qz2]; exact hm
    have hc : eb_M l yX4_zero (Cond.code yX4_zero cX4_zero 4 none :: wsL_law) 2 47 D 33 cy cL ad σ [.ref (ad 1), .int (σ.1 (13 + a0) 2), .int ((σ.1 (13 + a0) 2) + (σ.1 (13 + a0) 3))] (none) z2 := by rw [qz2]; exact c_X4_zero l D cy ad σ (σ.1 (13 + a0) 2) ((σ.1 (13 + a0) 2) + (σ.1 (13 + a0) 3))
    refine eb_callV (n := 2) (as := [.int (σ.1 (13 + a0) 2), .int ((σ.1 (13 + a0) 2) + (σ.1 (13 + a0) 3))]) (rest := []) X hw hl.1 1 hc (by decide) ⟨rfl, rfl, rfl⟩ (eb_goodV wi_7_3 wi_7_4 wi_7_5 wi_1_19 wi_7_6) rfl (by decide +kernel) ⟨by decide, by decide⟩ rfl rfl (Nat.le_of_ble_eq_true rfl) dX5_remove_24 ⟨by decide, by decide⟩ (st' := []) rfl (fun H locs hw => ?_)
    refine lv_aload_n hx hb dX5_remove_27 rfl (lv_at hl 1 rfl) ?_
    refine lv_iconst (v := 0) hx hb dX5_remove_28 (by decide) ?_
    refine eb_putI (T := TX2) X hw (13 + a0) 1 (by omega) (cE_i (by omega)) (by decide) (cE_t (by omega) 1) (fun _ h => List.mem_cons_of_mem _ (inlX2 _ h)) (List.mem_cons_of_mem _ wi_7_0) tyX2 tyX2_ok nmX2 rfl rfl rfl dX5_remove_29 (fun H locs hw => ?_)
    subst hm
    exact eb_vret X hw rfl rfl dX5_remove_32

set_option maxHeartbeats 4000000 in
set_option maxRecDepth 100000 in
theorem k_X5_forgetAll_2 {p : Program} {l : Launch} {e : Env} {s : State} {m : MethodId} {args : Array Value} {below : List Frame} {meth : Method} {c : Code} {A : Nat → Prop} {D : va_G} {cy : Nat → ClassId} {ad : Nat → Nat} (X : eb_X p s m args meth c cX5_forgetAll 2 RX5 (Cond.code yX5_forgetAll cX5_forgetAll 2 none :: wsL_law) none D cy A)   : ∀ (n : Nat) (σ : eb_St) (v1 : Int32)  (i0_ : 0 ≤ v1.toInt) (hn : ((6 : Int32).toInt - v1.toInt).toNat < n) {H : Heap} {locs : List Loc} {ls : Array Slot} {mm : eb_St} (_ : (m_X5_forgetAll_2  n σ v1) = mm) (hw : eb_H D 33 cy cL ad A s.heap σ H locs) (hl : lv_has ls 2 [(0, .ref (ad 10)), (1, .int v1)]), W p l e ({ frames := 4, cells := 0, slots := 0, locals := 91 } : Room) s m args below meth c H locs 0 0 (MQ below (eb_Q D 33 cy cL ad A (none) mm) args s 0 0 A) (F0 m 2 ls []) := by
  have hx := X.1.1
  have hb := X.1.2.1
  have hown := X.1.2.2.2.1
  have hts := X.1.2.2.2.2
  intro n
  induction n with
  | zero => intro σ v1 i0_ hn; exact absurd hn (Nat.not_lt_zero _)
  | succ n ih =>
    intro σ v1 i0_ hn H locs ls mm hm hw hl
    have hm : (if (6 : Int32) ≤ v1 then eb_pI (eb_pI (eb_pI (eb_pI (eb_pI (eb_pI σ 10 6 (-1)) 10 9 0) 10 10 0) 10 11 0) 10 12 0) 10 13 0 else (fun (z3 : eb_St) => (fun (x4 : Int32) => m_X5_forgetAll_2  n z3 x4) (v1 + 1)) (m_X5_remove σ v1.toNatClampNeg)) = mm := hm
    refine lv_iload_n hx hb dX5_forgetAll_2 rfl (lv_at hl 1 rfl) ?_
    refine lv_bipush (v := 6) hx hb dX5_forgetAll_3 (by decide) ?_
    refine lv_icmp_ge (tgt := 24) hx hb dX5_forgetAll_5 (by decide) (fun h1 => ?_) (fun h1 => ?_)
    · have hm := (if_pos h1).symm.trans hm
      refine lv_aload_n hx hb dX5_forgetAll_24 rfl (lv_at hl 0 rfl) ?_
      refine lv_iconst (v := (-1)) hx hb dX5_forgetAll_25 (by decide) ?_
      refine eb_putI (T := TX5) X hw 10 6 (by decide) ⟨rfl, rfl, rfl⟩ (by decide) rfl (fun _ h => List.mem_cons_of_mem _ (inlX5 _ h)) (List.mem_cons_of_mem _ wi_4_11) tyX5 tyX5_ok nmX5 rfl rfl rfl dX5_forgetAll_26 (fun H locs hw => ?_)
      refine lv_aload_n hx hb dX5_forgetAll_29 rfl (lv_at hl 0 rfl) ?_
      refine lv_iconst (v := 0) hx hb dX5_forgetAll_30 (by decide) ?_
      refine eb_putI (T := TX5) X hw 10 9 (by decide) ⟨rfl, rfl, rfl⟩ (by decide) rfl (fun _ h => List.mem_cons_of_mem _ (inlX5 _ h)) (List.mem_cons_of_mem _ wi_6_15) tyX5 tyX5_ok nmX5 rfl rfl rfl dX5_forgetAll_31 (fun H locs hw => ?_)
      refine lv_aload_n hx hb dX5_forgetAll_34 rfl (lv_at hl 0 rfl) ?_
      refine lv_iconst (v := 0) hx hb dX5_forgetAll_35 (by decide) ?_
      refine eb_putI (T := TX5) X hw 10 10 (by decide) ⟨rfl, rfl, rfl⟩ (by decide) rfl (fun _ h => List.mem_cons_of_mem _ (inlX5 _ h)) (List.mem_cons_of_mem _ wi_6_16) tyX5 tyX5_ok nmX5 rfl rfl rfl dX5_forgetAll_36 (fun H locs hw => ?_)
      refine lv_aload_n hx hb dX5_forgetAll_39 rfl (lv_at hl 0 rfl) ?_
      refine lv_iconst (v := 0) hx hb dX5_forgetAll_40 (by decide) ?_
      refine eb_putI (T := TX5) X hw 10 11 (by decide) ⟨rfl, rfl, rfl⟩ (by decide) rfl (fun _ h => List.mem_cons_of_mem _ (inlX5 _ h)) (List.mem_cons_of_mem _ wi_6_17) tyX5 tyX5_ok nmX5 rfl rfl rfl dX5_forgetAll_41 (fun H locs hw => ?_)
      refine lv_aload_n hx hb dX5_forgetAll_44 rfl (lv_at hl 0 rfl) ?_
      refine lv_iconst (v := 0) hx hb dX5_forgetAll_45 (by decide) ?_
      refine eb_putI (T := TX5) X hw 10 12 (by decide) ⟨rfl, rfl, rfl⟩ (by decide) rfl (fun _ h => List.mem_cons_of_mem _ (inlX5 _ h)) (List.mem_cons_of_mem _ wi_6_18) tyX5 tyX5_ok nmX5 rfl rfl rfl dX5_forgetAll_46 (fun H locs hw => ?_)
      refine lv_aload_n hx hb dX5_forgetAll_49 rfl (lv_at hl 0 rfl) ?_
      refine lv_iconst (v := 0) hx hb dX5_forgetAll_50 (by decide) ?_
      refine eb_putI (T := TX5) X hw 10 13 (by decide) ⟨rfl, rfl, rfl⟩ (by decide) rfl (fun _ h => List.mem_cons_of_mem _ (inlX5 _ h)) (List.mem_cons_of_mem _ wi_6_19) tyX5 tyX5_ok nmX5 rfl rfl rfl dX5_forgetAll_51 (fun H locs hw => ?_)
      subst hm
      exact eb_vret X hw rfl rfl dX5_forgetAll_54
    · have hm := (if_neg h1).symm.trans hm
      refine lv_aload_n hx hb dX5_forgetAll_8 rfl (lv_at hl 0 rfl) ?_
      refine lv_aload_n hx hb dX5_forgetAll_9 rfl (lv_at hl 0 rfl) ?_
      refine eb_get (T := TX5) X hw 10 5 (by decide) ⟨rfl, rfl, rfl⟩ (by decide) (fun _ h => List.mem_cons_of_mem _ (inlX5 _ h)) (List.mem_cons_of_mem _ wi_4_10) (v := .ref (ad 12)) rfl dX5_forgetAll_10 ?_
      refine lv_iload_n hx hb dX5_forgetAll_13 rfl (lv_at hl 1 rfl) ?_
      have b2 : v1.toNatClampNeg < 6 := Nat.not_le.mp (fun q => (show vp_in v1 6 from (eb_inU (by decide) i0_ (eb_nle h1))) (Or.inr q))
      refine eb_aald (n := 6) X hw 12 (by decide) rfl rfl (eb_inU (by decide) i0_ (eb_nle h1)) (a := 13 + v1.toNatClampNeg) rfl dX5_forgetAll_14 ?_
      obtain ⟨z3, qz3⟩ : ∃ t : eb_St, t = m_X5_remove σ v1.toNatClampNeg := ⟨_, rfl⟩
      have hm : (fun (x4 : Int32) => m_X5_forgetAll_2  n z3 x4) (v1 + 1) = mm := by rw [qz3]; exact hm
      have hc : eb_M l yX5_remove (Cond.code yX5_remove cX5_remove 2 none :: wsL_law) 3 70 D 33 cy cL ad σ [.ref (ad 10), .ref (ad (13 + v1.toNatClampNeg))] (none) z3 := by rw [qz3]; exact c_X5_remove l D cy ad σ v1.toNatClampNeg (by omega)
      refine eb_callV (n := 1) (as := [.ref (ad (13 + v1.toNatClampNeg))]) (rest := []) X hw hl.1 10 hc (by decide) ⟨rfl, rfl, rfl⟩ (eb_goodV wi_6_20 wi_6_21 wi_6_22 wi_2_15 wi_6_23) rfl (by decide +kernel) ⟨by decide, by decide⟩ rfl rfl (Nat.le_of_ble_eq_true rfl) dX5_forgetAll_15 ⟨by decide, by decide⟩ (st' := []) rfl (fun H locs hw => ?_)
      obtain ⟨x4, ex4⟩ : ∃ z : Int32, z = v1 + 1 := ⟨_, rfl⟩
      have hm : m_X5_forgetAll_2  n z3 x4 = mm := by rw [ex4]; exact hm
      refine lv_iinc (v := x4) (lv' := [(1, .int x4), (0, .ref (ad 10))]) hx hb dX5_forgetAll_18 hl (k := 1) rfl (by rw [ex4]; exact congrArg (v1 + ·) (by decide)) (by decide) rfl (fun ls hl => ?_)
      refine lv_goto (tgt := 2) hx hb dX5_forgetAll_21 (by decide) ?_
      exact ih z3 x4 (eb_up i0_ (eb_nle h1) ex4 hn).1 (eb_up i0_ (eb_nle h1) ex4 hn).2 hm hw (lv_sub hl [1, 0] rfl)
set_option maxHeartbeats 4000000 in
set_option maxRecDepth 100000 in
theorem c_X5_forgetAll (l : Launch) (D : va_G) (cy : Nat → ClassId) (ad : Nat → Nat) (σ : eb_St)   : eb_M l yX5_forgetAll (Cond.code yX5_forgetAll cX5_forgetAll 2 none :: wsL_law) 4 91 D 33 cy cL ad σ [.ref (ad 10)] (none) (m_X5_forgetAll σ) := by
  refine eb_start (own := RX5) (by decide) rfl rfl (Nat.le_of_ble_eq_true rfl) ?_
  intro p e s m args below meth c A ls X hw hl
  have hl : lv_has ls 2 [(0, .ref (ad 10))] := hl
  have hx := X.1.1
  have hb := X.1.2.1
  have hown := X.1.2.2.2.1
  have hts := X.1.2.2.2.2
  generalize hm : m_X5_forgetAll σ = mm
  have hm : m_X5_forgetAll_2  7 σ 0 = mm := hm
  refine lv_iconst (v := 0) hx hb dX5_forgetAll_0 (by decide) ?_
  refine lv_istore_n (lv' := [(1, .int 0), (0, .ref (ad 10))]) hx hb dX5_forgetAll_1 rfl hl (by decide) rfl (fun ls hl => ?_)
  exact k_X5_forgetAll_2 X   7 σ 0 (by decide) (by decide) hm hw (lv_sub hl [1, 0] rfl)

set_option maxHeartbeats 4000000 in
set_option maxRecDepth 100000 in
theorem k_X5_arrange_2 {p : Program} {l : Launch} {e : Env} {s : State} {m : MethodId} {args : Array Value} {below : List Frame} {meth : Method} {c : Code} {A : Nat → Prop} {D : va_G} {cy : Nat → ClassId} {ad : Nat → Nat} (X : eb_X p s m args meth c cX5_arrange 4 RX5 (Cond.code yX5_arrange cX5_arrange 4 none :: wsL_law) none D cy A)   : ∀ (n : Nat) (σ : eb_St) (v1 : Int32)  (i0_ : 0 ≤ v1.toInt) (hn : ((6 : Int32).toInt - v1.toInt).toNat < n) {H : Heap} {locs : List Loc} {ls : Array Slot} {mm : eb_St} (_ : (m_X5_arrange_2  n σ v1) = mm) (hw : eb_H D 33 cy cL ad A s.heap σ H locs) (hl : lv_has ls 4 [(0, .ref (ad 10)), (1, .int v1)]), W p l e ({ frames := 2, cells := 0, slots := 0, locals := 53 } : Room) s m args below meth c H locs 0 0 (MQ below (eb_Q D 33 cy cL ad A (none) mm) args s 0 0 A) (F0 m 2 ls []) := by
  have hx := X.1.1
  have hb := X.1.2.1
  have hown := X.1.2.2.2.1
  have hts := X.1.2.2.2.2
  intro n
  induction n with
  | zero => intro σ v1 i0_ hn; exact absurd hn (Nat.not_lt_zero _)
  | succ n ih =>
    intro σ v1 i0_ hn H locs ls mm hm hw hl
    have hm : (if (6 : Int32) ≤ v1 then (fun (z2 : Bool) => (if (eb_b z2) = 0 then (fun (z4 : eb_St) => (fun (z5 : eb_St) => z5) (m_X6_put z4 7 0 0)) (m_X6_put σ 6 0 0) else (if (σ.1 (13 + ((σ.1 10 6).toNatClampNeg)) 6) = 0 then (fun (z11 : eb_St) => (fun (z12 : eb_St) => z12) (m_X6_put z11 7 24 18014398509481983)) (m_X6_put σ 6 0 0) else (fun (z8 : Int64) => (fun (z9 : eb_St) => (fun (z10 : eb_St) => z10) (m_X6_put z9 7 24 18014398509481983)) (m_X6_put σ 6 27 z8)) (m_X6_napot (σ.1 (13 + ((σ.1 10 6).toNatClampNeg)) 5) (σ.1 (13 + ((σ.1 10 6).toNatClampNeg)) 6))))) (m_X5_isPlace ((σ.1 10 6).toInt64)) else (if v1 = (σ.1 10 6) then (if (σ.1 (13 + v1.toNatClampNeg) 1) = 0 then (fun (z25 : eb_St) => (fun (x26 : Int32) => m_X5_arrange_2  n z25 x26) (v1 + 1)) (m_X6_put σ v1 0 0) else (fun (z22 : Int64) => (fun (z23 : eb_St) => (fun (x24 : Int32) => m_X5_arrange_2  n z23 x24) (v1 + 1)) (m_X6_put σ v1 (24 ||| 7) z22)) (m_X6_napot (σ.1 (13 + v1.toNatClampNeg) 2) (σ.1 (13 + v1.toNatClampNeg) 3))) else (if (σ.1 (13 + v1.toNatClampNeg) 1) = 0 then (fun (z19 : eb_St) => (fun (x20 : Int32) => m_X5_arrange_2  n z19 x20) (v1 + 1)) (m_X6_put σ v1 0 0) else (fun (z16 : Int64) => (fun (z17 : eb_St) => (fun (x18 : Int32) => m_X5_arrange_2  n z17 x18) (v1 + 1)) (m_X6_put σ v1 (24 ||| 0) z16)) (m_X6_napot (σ.1 (13 + v1.toNatClampNeg) 2) (σ.1 (13 + v1.toNatClampNeg) 3))))) = mm := hm
    refine lv_iload_n hx hb dX5_arrange_2 rfl (lv_at hl 1 rfl) ?_
    refine lv_bipush (v := 6) hx hb dX5_arrange_3 (by decide) ?_
    refine lv_icmp_ge (tgt := 79) hx hb dX5_arrange_5 (by decide) (fun h1 => ?_) (fun h1 => ?_)
    · have hm := (if_pos h1).symm.trans hm
      refine lv_aload_n hx hb dX5_arrange_79 rfl (lv_at hl 0 rfl) ?_
      refine eb_get (T := TX5) X hw 10 6 (by decide) ⟨rfl, rfl, rfl⟩ (by decide) (fun _ h => List.mem_cons_of_mem _ (inlX5 _ h)) (List.mem_cons_of_mem _ wi_4_11) (v := .int (σ.1 10 6)) rfl dX5_arrange_80 ?_
      refine lv_i2l (v := (σ.1 10 6).toInt64) hx hb dX5_arrange_83 rfl ?_
      obtain ⟨z2, qz2⟩ : ∃ t : Bool, t = m_X5_isPlace ((σ.1 10 6).toInt64) := ⟨_, rfl⟩
      have hm : (if (eb_b z2) = 0 then (fun (z4 : eb_St) => (fun (z5 : eb_St) => z5) (m_X6_put z4 7 0 0)) (m_X6_put σ 6 0 0) else (if (σ.1 (13 + ((σ.1 10 6).toNatClampNeg)) 6) = 0 then (fun (z11 : eb_St) => (fun (z12 : eb_St) => z12) (m_X6_put z11 7 24 18014398509481983)) (m_X6_put σ 6 0 0) else (fun (z8 : Int64) => (fun (z9 : eb_St) => (fun (z10 : eb_St) => z10) (m_X6_put z9 7 24 18014398509481983)) (m_X6_put σ 6 27 z8)) (m_X6_napot (σ.1 (13 + ((σ.1 10 6).toNatClampNeg)) 5) (σ.1 (13 + ((σ.1 10 6).toNatClampNeg)) 6)))) = mm := by rw [qz2]; exact hm
      have hc : eb_M l yX5_isPlace (Cond.code yX5_isPlace cX5_isPlace 2 (some .boolean) :: wsL_law) 0 0 D 33 cy cL ad σ [.long ((σ.1 10 6).toInt64)] (some (.int (eb_b z2))) σ := by rw [qz2]; exact c_X5_isPlace l D cy ad σ ((σ.1 10 6).toInt64)
      refine eb_callS (n := 1) X hw hl.1 (rest := []) hc (eb_goodS wi_13_1 wi_13_2 wi_2_15 wi_13_3) rfl (by decide +kernel) ⟨by decide, by decide⟩ rfl rfl (Nat.le_of_ble_eq_true rfl) dX5_arrange_84 ⟨by decide, by decide⟩ (st' := [.int (eb_b z2)]) rfl (fun H locs hw => ?_)
      refine lv_if_eq (tgt := 102) hx hb dX5_arrange_87 (by decide) (fun h3 => ?_) (fun h3 => ?_)
      · have hm := (if_pos h3).symm.trans hm
        refine lv_null hx hb dX5_arrange_102 ?_
        refine lv_astore_nN (lv' := [(1, .null), (0, .ref (ad 10))]) hx hb dX5_arrange_103 rfl hl (by decide) rfl (fun ls hl => ?_)
        refine lv_aload_nN hx hb dX5_arrange_104 rfl (lv_at hl 0 rfl) ?_
        refine lv_ifnullN (tgt := 115) hx hb dX5_arrange_105 (by decide) ?_
        refine lv_aload_n hx hb dX5_arrange_115 rfl (lv_at hl 1 rfl) ?_
        refine eb_get (T := TX5) X hw 10 2 (by decide) ⟨rfl, rfl, rfl⟩ (by decide) (fun _ h => List.mem_cons_of_mem _ (inlX5 _ h)) (List.mem_cons_of_mem _ wi_4_14) (v := .ref (ad 3)) rfl dX5_arrange_116 ?_
        refine lv_bipush (v := 6) hx hb dX5_arrange_119 (by decide) ?_
        refine lv_iconst (v := 0) hx hb dX5_arrange_121 (by decide) ?_
        refine lv_lconst (v := 0) hx hb dX5_arrange_122 (by decide) ?_
        obtain ⟨z4, qz4⟩ : ∃ t : eb_St, t = m_X6_put σ 6 0 0 := ⟨_, rfl⟩
        have hm : (fun (z5 : eb_St) => z5) (m_X6_put z4 7 0 0) = mm := by rw [qz4]; exact hm
        have hc : eb_M l yX6_put (Cond.code yX6_put cX6_put 5 none :: wsL_law) 1 29 D 33 cy cL ad σ [.ref (ad 3), .int 6, .int 0, .long 0] (none) z4 := by rw [qz4]; exact c_X6_put l D cy ad σ 6 0 0
        refine eb_callV (n := 3) (as := [.int 6, .int 0, .long 0]) (rest := []) X hw hl.1 3 hc (by decide) ⟨rfl, rfl, rfl⟩ (eb_goodV wi_13_16 wi_13_17 wi_13_18 wi_1_23 wi_13_19) rfl (by decide +kernel) ⟨by decide, by decide⟩ rfl rfl (Nat.le_of_ble_eq_true rfl) dX5_arrange_123 ⟨by decide, by decide⟩ (st' := []) rfl (fun H locs hw => ?_)
        refine lv_goto (tgt := 151) hx hb dX5_arrange_126 (by decide) ?_
        refine lv_aload_n hx hb dX5_arrange_151 rfl (lv_at hl 1 rfl) ?_
        refine eb_get (T := TX5) X hw 10 2 (by decide) ⟨rfl, rfl, rfl⟩ (by decide) (fun _ h => List.mem_cons_of_mem _ (inlX5 _ h)) (List.mem_cons_of_mem _ wi_4_14) (v := .ref (ad 3)) rfl dX5_arrange_152 ?_
        refine lv_bipush (v := 7) hx hb dX5_arrange_155 (by decide) ?_
        refine lv_aload_nN hx hb dX5_arrange_157 rfl (lv_at hl 0 rfl) ?_
        refine lv_ifnonnullN hx hb dX5_arrange_158 ?_
        refine lv_iconst (v := 0) hx hb dX5_arrange_161 (by decide) ?_
        refine lv_goto (tgt := 167) hx hb dX5_arrange_162 (by decide) ?_
        refine lv_aload_nN hx hb dX5_arrange_167 rfl (lv_at hl 0 rfl) ?_
        refine lv_ifnonnullN hx hb dX5_arrange_168 ?_
        refine lv_lconst (v := 0) hx hb dX5_arrange_171 (by decide) ?_
        refine lv_goto (tgt := 178) hx hb dX5_arrange_172 (by decide) ?_
        obtain ⟨z5, qz5⟩ : ∃ t : eb_St, t = m_X6_put z4 7 0 0 := ⟨_, rfl⟩
        have hm : z5 = mm := by rw [qz5]; exact hm
        have hc : eb_M l yX6_put (Cond.code yX6_put cX6_put 5 none :: wsL_law) 1 29 D 33 cy cL ad z4 [.ref (ad 3), .int 7, .int 0, .long 0] (none) z5 := by rw [qz5]; exact c_X6_put l D cy ad z4 7 0 0
        refine eb_callV (n := 3) (as := [.int 7, .int 0, .long 0]) (rest := []) X hw hl.1 3 hc (by decide) ⟨rfl, rfl, rfl⟩ (eb_goodV wi_13_16 wi_13_17 wi_13_18 wi_1_23 wi_13_19) rfl (by decide +kernel) ⟨by decide, by decide⟩ rfl rfl (Nat.le_of_ble_eq_true rfl) dX5_arrange_178 ⟨by decide, by decide⟩ (st' := []) rfl (fun H locs hw => ?_)
        subst hm
        exact eb_vret X hw rfl rfl dX5_arrange_181
      · have hm := (if_neg h3).symm.trans hm
        refine lv_aload_n hx hb dX5_arrange_90 rfl (lv_at hl 0 rfl) ?_
        refine eb_get (T := TX5) X hw 10 5 (by decide) ⟨rfl, rfl, rfl⟩ (by decide) (fun _ h => List.mem_cons_of_mem _ (inlX5 _ h)) (List.mem_cons_of_mem _ wi_4_10) (v := .ref (ad 12)) rfl dX5_arrange_91 ?_
        refine lv_aload_n hx hb dX5_arrange_94 rfl (lv_at hl 0 rfl) ?_
        refine eb_get (T := TX5) X hw 10 6 (by decide) ⟨rfl, rfl, rfl⟩ (by decide) (fun _ h => List.mem_cons_of_mem _ (inlX5 _ h)) (List.mem_cons_of_mem _ wi_4_11) (v := .int (σ.1 10 6)) rfl dX5_arrange_95 ?_
        have b6 : (σ.1 10 6).toNatClampNeg < 6 := Nat.not_le.mp (fun q => (show vp_in (σ.1 10 6) 6 from (l_isPlaceI (by rw [← qz2]; exact h3))) (Or.inr q))
        refine eb_aald (n := 6) X hw 12 (by decide) rfl rfl (l_isPlaceI (by rw [← qz2]; exact h3)) (a := 13 + ((σ.1 10 6).toNatClampNeg)) rfl dX5_arrange_98 ?_
        refine lv_goto (tgt := 103) hx hb dX5_arrange_99 (by decide) ?_
        refine lv_astore_n (lv' := [(1, .ref (ad (13 + ((σ.1 10 6).toNatClampNeg)))), (0, .ref (ad 10))]) hx hb dX5_arrange_103 rfl hl (by decide) rfl (fun ls hl => ?_)
        refine lv_aload_n hx hb dX5_arrange_104 rfl (lv_at hl 0 rfl) ?_
        refine lv_ifnull hx hb dX5_arrange_105 ?_
        refine lv_aload_n hx hb dX5_arrange_108 rfl (lv_at hl 0 rfl) ?_
        refine eb_get (T := TX2) X hw (13 + ((σ.1 10 6).toNatClampNeg)) 6 (by omega) (cE_i (by omega)) (by decide) (fun _ h => List.mem_cons_of_mem _ (inlX2 _ h)) (List.mem_cons_of_mem _ wi_13_13) (v := .int (σ.1 (13 + ((σ.1 10 6).toNatClampNeg)) 6)) (eb_sI (cE_t (by omega) 6)) dX5_arrange_109 ?_
        refine lv_if_ne (tgt := 129) hx hb dX5_arrange_112 (by decide) (fun h7 => ?_) (fun h7 => ?_)
        · have hm := (if_neg h7).symm.trans hm
          refine lv_aload_n hx hb dX5_arrange_129 rfl (lv_at hl 1 rfl) ?_
          refine eb_get (T := TX5) X hw 10 2 (by decide) ⟨rfl, rfl, rfl⟩ (by decide) (fun _ h => List.mem_cons_of_mem _ (inlX5 _ h)) (List.mem_cons_of_mem _ wi_4_14) (v := .ref (ad 3)) rfl dX5_arrange_130 ?_
          refine lv_bipush (v := 6) hx hb dX5_arrange_133 (by decide) ?_
          refine lv_bipush (v := 27) hx hb dX5_arrange_135 (by decide) ?_
          refine lv_aload_n hx hb dX5_arrange_137 rfl (lv_at hl 0 rfl) ?_
          refine eb_get (T := TX2) X hw (13 + ((σ.1 10 6).toNatClampNeg)) 5 (by omega) (cE_i (by omega)) (by decide) (fun _ h => List.mem_cons_of_mem _ (inlX2 _ h)) (List.mem_cons_of_mem _ wi_13_14) (v := .int (σ.1 (13 + ((σ.1 10 6).toNatClampNeg)) 5)) (eb_sI (cE_t (by omega) 5)) dX5_arrange_138 ?_
          refine lv_aload_n hx hb dX5_arrange_141 rfl (lv_at hl 0 rfl) ?_
          refine eb_get (T := TX2) X hw (13 + ((σ.1 10 6).toNatClampNeg)) 6 (by omega) (cE_i (by omega)) (by decide) (fun _ h => List.mem_cons_of_mem _ (inlX2 _ h)) (List.mem_cons_of_mem _ wi_13_13) (v := .int (σ.1 (13 + ((σ.1 10 6).toNatClampNeg)) 6)) (eb_sI (cE_t (by omega) 6)) dX5_arrange_142 ?_
          obtain ⟨z8, qz8⟩ : ∃ t : Int64, t = m_X6_napot (σ.1 (13 + ((σ.1 10 6).toNatClampNeg)) 5) (σ.1 (13 + ((σ.1 10 6).toNatClampNeg)) 6) := ⟨_, rfl⟩
          have hm : (fun (z9 : eb_St) => (fun (z10 : eb_St) => z10) (m_X6_put z9 7 24 18014398509481983)) (m_X6_put σ 6 27 z8) = mm := by rw [qz8]; exact hm
          have hc : eb_M l yX6_napot (Cond.code yX6_napot cX6_napot 2 (some .long) :: wsL_law) 0 0 D 33 cy cL ad σ [.int (σ.1 (13 + ((σ.1 10 6).toNatClampNeg)) 5), .int (σ.1 (13 + ((σ.1 10 6).toNatClampNeg)) 6)] (some (.long z8)) σ := by rw [qz8]; exact c_X6_napot l D cy ad σ (σ.1 (13 + ((σ.1 10 6).toNatClampNeg)) 5) (σ.1 (13 + ((σ.1 10 6).toNatClampNeg)) 6)
          refine eb_callS (n := 2) X hw hl.1 (rest := [.int 27, .int 6, .ref (ad 3)]) hc (eb_goodS wi_14_3 wi_14_4 wi_1_23 wi_14_5) rfl (by decide +kernel) ⟨by decide, by decide⟩ rfl rfl (Nat.le_of_ble_eq_true rfl) dX5_arrange_145 ⟨by decide, by decide⟩ (st' := [.long z8, .int 27, .int 6, .ref (ad 3)]) rfl (fun H locs hw => ?_)
          obtain ⟨z9, qz9⟩ : ∃ t : eb_St, t = m_X6_put σ 6 27 z8 := ⟨_, rfl⟩
          have hm : (fun (z10 : eb_St) => z10) (m_X6_put z9 7 24 18014398509481983) = mm := by rw [qz9]; exact hm
          have hc : eb_M l yX6_put (Cond.code yX6_put cX6_put 5 none :: wsL_law) 1 29 D 33 cy cL ad σ [.ref (ad 3), .int 6, .int 27, .long z8] (none) z9 := by rw [qz9]; exact c_X6_put l D cy ad σ 6 27 z8
          refine eb_callV (n := 3) (as := [.int 6, .int 27, .long z8]) (rest := []) X hw hl.1 3 hc (by decide) ⟨rfl, rfl, rfl⟩ (eb_goodV wi_13_16 wi_13_17 wi_13_18 wi_1_23 wi_13_19) rfl (by decide +kernel) ⟨by decide, by decide⟩ rfl rfl (Nat.le_of_ble_eq_true rfl) dX5_arrange_148 ⟨by decide, by decide⟩ (st' := []) rfl (fun H locs hw => ?_)
          refine lv_aload_n hx hb dX5_arrange_151 rfl (lv_at hl 1 rfl) ?_
          refine eb_get (T := TX5) X hw 10 2 (by decide) ⟨rfl, rfl, rfl⟩ (by decide) (fun _ h => List.mem_cons_of_mem _ (inlX5 _ h)) (List.mem_cons_of_mem _ wi_4_14) (v := .ref (ad 3)) rfl dX5_arrange_152 ?_
          refine lv_bipush (v := 7) hx hb dX5_arrange_155 (by decide) ?_
          refine lv_aload_n hx hb dX5_arrange_157 rfl (lv_at hl 0 rfl) ?_
          refine lv_ifnonnull (tgt := 165) hx hb dX5_arrange_158 (by decide) ?_
          refine lv_bipush (v := 24) hx hb dX5_arrange_165 (by decide) ?_
          refine lv_aload_n hx hb dX5_arrange_167 rfl (lv_at hl 0 rfl) ?_
          refine lv_ifnonnull (tgt := 175) hx hb dX5_arrange_168 (by decide) ?_
          refine lv_ldc2 hx hb hown (hts _ (List.mem_cons_of_mem _ wi_13_15)) dX5_arrange_175 ?_
          obtain ⟨z10, qz10⟩ : ∃ t : eb_St, t = m_X6_put z9 7 24 18014398509481983 := ⟨_, rfl⟩
          have hm : z10 = mm := by rw [qz10]; exact hm
          have hc : eb_M l yX6_put (Cond.code yX6_put cX6_put 5 none :: wsL_law) 1 29 D 33 cy cL ad z9 [.ref (ad 3), .int 7, .int 24, .long 18014398509481983] (none) z10 := by rw [qz10]; exact c_X6_put l D cy ad z9 7 24 18014398509481983
          refine eb_callV (n := 3) (as := [.int 7, .int 24, .long 18014398509481983]) (rest := []) X hw hl.1 3 hc (by decide) ⟨rfl, rfl, rfl⟩ (eb_goodV wi_13_16 wi_13_17 wi_13_18 wi_1_23 wi_13_19) rfl (by decide +kernel) ⟨by decide, by decide⟩ rfl rfl (Nat.le_of_ble_eq_true rfl) dX5_arrange_178 ⟨by decide, by decide⟩ (st' := []) rfl (fun H locs hw => ?_)
          subst hm
          exact eb_vret X hw rfl rfl dX5_arrange_181
        · have hm := (if_pos h7).symm.trans hm
          refine lv_aload_n hx hb dX5_arrange_115 rfl (lv_at hl 1 rfl) ?_
          refine eb_get (T := TX5) X hw 10 2 (by decide) ⟨rfl, rfl, rfl⟩ (by decide) (fun _ h => List.mem_cons_of_mem _ (inlX5 _ h)) (List.mem_cons_of_mem _ wi_4_14) (v := .ref (ad 3)) rfl dX5_arrange_116 ?_
          refine lv_bipush (v := 6) hx hb dX5_arrange_119 (by decide) ?_
          refine lv_iconst (v := 0) hx hb dX5_arrange_121 (by decide) ?_
          refine lv_lconst (v := 0) hx hb dX5_arrange_122 (by decide) ?_
          obtain ⟨z11, qz11⟩ : ∃ t : eb_St, t = m_X6_put σ 6 0 0 := ⟨_, rfl⟩
          have hm : (fun (z12 : eb_St) => z12) (m_X6_put z11 7 24 18014398509481983) = mm := by rw [qz11]; exact hm
          have hc : eb_M l yX6_put (Cond.code yX6_put cX6_put 5 none :: wsL_law) 1 29 D 33 cy cL ad σ [.ref (ad 3), .int 6, .int 0, .long 0] (none) z11 := by rw [qz11]; exact c_X6_put l D cy ad σ 6 0 0
          refine eb_callV (n := 3) (as := [.int 6, .int 0, .long 0]) (rest := []) X hw hl.1 3 hc (by decide) ⟨rfl, rfl, rfl⟩ (eb_goodV wi_13_16 wi_13_17 wi_13_18 wi_1_23 wi_13_19) rfl (by decide +kernel) ⟨by decide, by decide⟩ rfl rfl (Nat.le_of_ble_eq_true rfl) dX5_arrange_123 ⟨by decide, by decide⟩ (st' := []) rfl (fun H locs hw => ?_)
          refine lv_goto (tgt := 151) hx hb dX5_arrange_126 (by decide) ?_
          refine lv_aload_n hx hb dX5_arrange_151 rfl (lv_at hl 1 rfl) ?_
          refine eb_get (T := TX5) X hw 10 2 (by decide) ⟨rfl, rfl, rfl⟩ (by decide) (fun _ h => List.mem_cons_of_mem _ (inlX5 _ h)) (List.mem_cons_of_mem _ wi_4_14) (v := .ref (ad 3)) rfl dX5_arrange_152 ?_
          refine lv_bipush (v := 7) hx hb dX5_arrange_155 (by decide) ?_
          refine lv_aload_n hx hb dX5_arrange_157 rfl (lv_at hl 0 rfl) ?_
          refine lv_ifnonnull (tgt := 165) hx hb dX5_arrange_158 (by decide) ?_
          refine lv_bipush (v := 24) hx hb dX5_arrange_165 (by decide) ?_
          refine lv_aload_n hx hb dX5_arrange_167 rfl (lv_at hl 0 rfl) ?_
          refine lv_ifnonnull (tgt := 175) hx hb dX5_arrange_168 (by decide) ?_
          refine lv_ldc2 hx hb hown (hts _ (List.mem_cons_of_mem _ wi_13_15)) dX5_arrange_175 ?_
          obtain ⟨z12, qz12⟩ : ∃ t : eb_St, t = m_X6_put z11 7 24 18014398509481983 := ⟨_, rfl⟩
          have hm : z12 = mm := by rw [qz12]; exact hm
          have hc : eb_M l yX6_put (Cond.code yX6_put cX6_put 5 none :: wsL_law) 1 29 D 33 cy cL ad z11 [.ref (ad 3), .int 7, .int 24, .long 18014398509481983] (none) z12 := by rw [qz12]; exact c_X6_put l D cy ad z11 7 24 18014398509481983
          refine eb_callV (n := 3) (as := [.int 7, .int 24, .long 18014398509481983]) (rest := []) X hw hl.1 3 hc (by decide) ⟨rfl, rfl, rfl⟩ (eb_goodV wi_13_16 wi_13_17 wi_13_18 wi_1_23 wi_13_19) rfl (by decide +kernel) ⟨by decide, by decide⟩ rfl rfl (Nat.le_of_ble_eq_true rfl) dX5_arrange_178 ⟨by decide, by decide⟩ (st' := []) rfl (fun H locs hw => ?_)
          subst hm
          exact eb_vret X hw rfl rfl dX5_arrange_181
    · have hm := (if_neg h1).symm.trans hm
      refine lv_aload_n hx hb dX5_arrange_8 rfl (lv_at hl 0 rfl) ?_
      refine eb_get (T := TX5) X hw 10 5 (by decide) ⟨rfl, rfl, rfl⟩ (by decide) (fun _ h => List.mem_cons_of_mem _ (inlX5 _ h)) (List.mem_cons_of_mem _ wi_4_10) (v := .ref (ad 12)) rfl dX5_arrange_9 ?_
      refine lv_iload_n hx hb dX5_arrange_12 rfl (lv_at hl 1 rfl) ?_
      have b13 : v1.toNatClampNeg < 6 := Nat.not_le.mp (fun q => (show vp_in v1 6 from (eb_inU (by decide) i0_ (eb_nle h1))) (Or.inr q))
      refine eb_aald (n := 6) X hw 12 (by decide) rfl rfl (eb_inU (by decide) i0_ (eb_nle h1)) (a := 13 + v1.toNatClampNeg) rfl dX5_arrange_13 ?_
      refine lv_astore_n (lv' := [(2, .ref (ad (13 + v1.toNatClampNeg))), (0, .ref (ad 10)), (1, .int v1)]) hx hb dX5_arrange_14 rfl hl (by decide) rfl (fun ls hl => ?_)
      refine lv_iload_n hx hb dX5_arrange_15 rfl (lv_at hl 2 rfl) ?_
      refine lv_aload_n hx hb dX5_arrange_16 rfl (lv_at hl 1 rfl) ?_
      refine eb_get (T := TX5) X hw 10 6 (by decide) ⟨rfl, rfl, rfl⟩ (by decide) (fun _ h => List.mem_cons_of_mem _ (inlX5 _ h)) (List.mem_cons_of_mem _ wi_4_11) (v := .int (σ.1 10 6)) rfl dX5_arrange_17 ?_
      refine lv_icmp_ne (tgt := 28) hx hb dX5_arrange_20 (by decide) (fun h14 => ?_) (fun h14 => ?_)
      · have hm := (if_neg h14).symm.trans hm
        refine lv_iconst (v := 0) hx hb dX5_arrange_28 (by decide) ?_
        refine lv_istore_n (lv' := [(3, .int 0), (2, .ref (ad (13 + v1.toNatClampNeg))), (0, .ref (ad 10)), (1, .int v1)]) hx hb dX5_arrange_29 rfl hl (by decide) rfl (fun ls hl => ?_)
        refine lv_aload_n hx hb dX5_arrange_30 rfl (lv_at hl 1 rfl) ?_
        refine eb_get (T := TX2) X hw (13 + v1.toNatClampNeg) 1 (by omega) (cE_i (by omega)) (by decide) (fun _ h => List.mem_cons_of_mem _ (inlX2 _ h)) (List.mem_cons_of_mem _ wi_7_0) (v := .int (σ.1 (13 + v1.toNatClampNeg) 1)) (eb_sI (cE_t (by omega) 1)) dX5_arrange_31 ?_
        refine lv_if_ne (tgt := 50) hx hb dX5_arrange_34 (by decide) (fun h15 => ?_) (fun h15 => ?_)
        · have hm := (if_neg h15).symm.trans hm
          refine lv_aload_n hx hb dX5_arrange_50 rfl (lv_at hl 2 rfl) ?_
          refine eb_get (T := TX5) X hw 10 2 (by decide) ⟨rfl, rfl, rfl⟩ (by decide) (fun _ h => List.mem_cons_of_mem _ (inlX5 _ h)) (List.mem_cons_of_mem _ wi_4_14) (v := .ref (ad 3)) rfl dX5_arrange_51 ?_
          refine lv_iload_n hx hb dX5_arrange_54 rfl (lv_at hl 3 rfl) ?_
          refine lv_bipush (v := 24) hx hb dX5_arrange_55 (by decide) ?_
          refine lv_iload_n hx hb dX5_arrange_57 rfl (lv_at hl 0 rfl) ?_
          refine lv_ior hx hb dX5_arrange_58 ?_
          refine lv_aload_n hx hb dX5_arrange_59 rfl (lv_at hl 1 rfl) ?_
          refine eb_get (T := TX2) X hw (13 + v1.toNatClampNeg) 2 (by omega) (cE_i (by omega)) (by decide) (fun _ h => List.mem_cons_of_mem _ (inlX2 _ h)) (List.mem_cons_of_mem _ wi_7_1) (v := .int (σ.1 (13 + v1.toNatClampNeg) 2)) (eb_sI (cE_t (by omega) 2)) dX5_arrange_60 ?_
          refine lv_aload_n hx hb dX5_arrange_63 rfl (lv_at hl 1 rfl) ?_
          refine eb_get (T := TX2) X hw (13 + v1.toNatClampNeg) 3 (by omega) (cE_i (by omega)) (by decide) (fun _ h => List.mem_cons_of_mem _ (inlX2 _ h)) (List.mem_cons_of_mem _ wi_7_2) (v := .int (σ.1 (13 + v1.toNatClampNeg) 3)) (eb_sI (cE_t (by omega) 3)) dX5_arrange_64 ?_
          obtain ⟨z16, qz16⟩ : ∃ t : Int64, t = m_X6_napot (σ.1 (13 + v1.toNatClampNeg) 2) (σ.1 (13 + v1.toNatClampNeg) 3) := ⟨_, rfl⟩
          have hm : (fun (z17 : eb_St) => (fun (x18 : Int32) => m_X5_arrange_2  n z17 x18) (v1 + 1)) (m_X6_put σ v1 (24 ||| 0) z16) = mm := by rw [qz16]; exact hm
          have hc : eb_M l yX6_napot (Cond.code yX6_napot cX6_napot 2 (some .long) :: wsL_law) 0 0 D 33 cy cL ad σ [.int (σ.1 (13 + v1.toNatClampNeg) 2), .int (σ.1 (13 + v1.toNatClampNeg) 3)] (some (.long z16)) σ := by rw [qz16]; exact c_X6_napot l D cy ad σ (σ.1 (13 + v1.toNatClampNeg) 2) (σ.1 (13 + v1.toNatClampNeg) 3)
          refine eb_callS (n := 2) X hw hl.1 (rest := [.int (24 ||| 0), .int v1, .ref (ad 3)]) hc (eb_goodS wi_14_3 wi_14_4 wi_1_23 wi_14_5) rfl (by decide +kernel) ⟨by decide, by decide⟩ rfl rfl (Nat.le_of_ble_eq_true rfl) dX5_arrange_67 ⟨by decide, by decide⟩ (st' := [.long z16, .int (24 ||| 0), .int v1, .ref (ad 3)]) rfl (fun H locs hw => ?_)
          obtain ⟨z17, qz17⟩ : ∃ t : eb_St, t = m_X6_put σ v1 (24 ||| 0) z16 := ⟨_, rfl⟩
          have hm : (fun (x18 : Int32) => m_X5_arrange_2  n z17 x18) (v1 + 1) = mm := by rw [qz17]; exact hm
          have hc : eb_M l yX6_put (Cond.code yX6_put cX6_put 5 none :: wsL_law) 1 29 D 33 cy cL ad σ [.ref (ad 3), .int v1, .int (24 ||| 0), .long z16] (none) z17 := by rw [qz17]; exact c_X6_put l D cy ad σ v1 (24 ||| 0) z16
          refine eb_callV (n := 3) (as := [.int v1, .int (24 ||| 0), .long z16]) (rest := []) X hw hl.1 3 hc (by decide) ⟨rfl, rfl, rfl⟩ (eb_goodV wi_13_16 wi_13_17 wi_13_18 wi_1_23 wi_13_19) rfl (by decide +kernel) ⟨by decide, by decide⟩ rfl rfl (Nat.le_of_ble_eq_true rfl) dX5_arrange_70 ⟨by decide, by decide⟩ (st' := []) rfl (fun H locs hw => ?_)
          obtain ⟨x18, ex18⟩ : ∃ z : Int32, z = v1 + 1 := ⟨_, rfl⟩
          have hm : m_X5_arrange_2  n z17 x18 = mm := by rw [ex18]; exact hm
          refine lv_iinc (v := x18) (lv' := [(1, .int x18), (3, .int 0), (2, .ref (ad (13 + v1.toNatClampNeg))), (0, .ref (ad 10))]) hx hb dX5_arrange_73 hl (k := 3) rfl (by rw [ex18]; exact congrArg (v1 + ·) (by decide)) (by decide) rfl (fun ls hl => ?_)
          refine lv_goto (tgt := 2) hx hb dX5_arrange_76 (by decide) ?_
          exact ih z17 x18 (eb_up i0_ (eb_nle h1) ex18 hn).1 (eb_up i0_ (eb_nle h1) ex18 hn).2 hm hw (lv_sub hl [3, 0] rfl)
        · have hm := (if_pos h15).symm.trans hm
          refine lv_aload_n hx hb dX5_arrange_37 rfl (lv_at hl 2 rfl) ?_
          refine eb_get (T := TX5) X hw 10 2 (by decide) ⟨rfl, rfl, rfl⟩ (by decide) (fun _ h => List.mem_cons_of_mem _ (inlX5 _ h)) (List.mem_cons_of_mem _ wi_4_14) (v := .ref (ad 3)) rfl dX5_arrange_38 ?_
          refine lv_iload_n hx hb dX5_arrange_41 rfl (lv_at hl 3 rfl) ?_
          refine lv_iconst (v := 0) hx hb dX5_arrange_42 (by decide) ?_
          refine lv_lconst (v := 0) hx hb dX5_arrange_43 (by decide) ?_
          obtain ⟨z19, qz19⟩ : ∃ t : eb_St, t = m_X6_put σ v1 0 0 := ⟨_, rfl⟩
          have hm : (fun (x20 : Int32) => m_X5_arrange_2  n z19 x20) (v1 + 1) = mm := by rw [qz19]; exact hm
          have hc : eb_M l yX6_put (Cond.code yX6_put cX6_put 5 none :: wsL_law) 1 29 D 33 cy cL ad σ [.ref (ad 3), .int v1, .int 0, .long 0] (none) z19 := by rw [qz19]; exact c_X6_put l D cy ad σ v1 0 0
          refine eb_callV (n := 3) (as := [.int v1, .int 0, .long 0]) (rest := []) X hw hl.1 3 hc (by decide) ⟨rfl, rfl, rfl⟩ (eb_goodV wi_13_16 wi_13_17 wi_13_18 wi_1_23 wi_13_19) rfl (by decide +kernel) ⟨by decide, by decide⟩ rfl rfl (Nat.le_of_ble_eq_true rfl) dX5_arrange_44 ⟨by decide, by decide⟩ (st' := []) rfl (fun H locs hw => ?_)
          refine lv_goto (tgt := 73) hx hb dX5_arrange_47 (by decide) ?_
          obtain ⟨x20, ex20⟩ : ∃ z : Int32, z = v1 + 1 := ⟨_, rfl⟩
          have hm : m_X5_arrange_2  n z19 x20 = mm := by rw [ex20]; exact hm
          refine lv_iinc (v := x20) (lv' := [(1, .int x20), (3, .int 0), (2, .ref (ad (13 + v1.toNatClampNeg))), (0, .ref (ad 10))]) hx hb dX5_arrange_73 hl (k := 3) rfl (by rw [ex20]; exact congrArg (v1 + ·) (by decide)) (by decide) rfl (fun ls hl => ?_)
          refine lv_goto (tgt := 2) hx hb dX5_arrange_76 (by decide) ?_
          exact ih z19 x20 (eb_up i0_ (eb_nle h1) ex20 hn).1 (eb_up i0_ (eb_nle h1) ex20 hn).2 hm hw (lv_sub hl [3, 0] rfl)
      · have hm := (if_pos h14).symm.trans hm
        refine lv_bipush (v := 7) hx hb dX5_arrange_23 (by decide) ?_
        refine lv_goto (tgt := 29) hx hb dX5_arrange_25 (by decide) ?_
        refine lv_istore_n (lv' := [(3, .int 7), (2, .ref (ad (13 + v1.toNatClampNeg))), (0, .ref (ad 10)), (1, .int v1)]) hx hb dX5_arrange_29 rfl hl (by decide) rfl (fun ls hl => ?_)
        refine lv_aload_n hx hb dX5_arrange_30 rfl (lv_at hl 1 rfl) ?_
        refine eb_get (T := TX2) X hw (13 + v1.toNatClampNeg) 1 (by omega) (cE_i (by omega)) (by decide) (fun _ h => List.mem_cons_of_mem _ (inlX2 _ h)) (List.mem_cons_of_mem _ wi_7_0) (v := .int (σ.1 (13 + v1.toNatClampNeg) 1)) (eb_sI (cE_t (by omega) 1)) dX5_arrange_31 ?_
        refine lv_if_ne (tgt := 50) hx hb dX5_arrange_34 (by decide) (fun h21 => ?_) (fun h21 => ?_)
        · have hm := (if_neg h21).symm.trans hm
          refine lv_aload_n hx hb dX5_arrange_50 rfl (lv_at hl 2 rfl) ?_
          refine eb_get (T := TX5) X hw 10 2 (by decide) ⟨rfl, rfl, rfl⟩ (by decide) (fun _ h => List.mem_cons_of_mem _ (inlX5 _ h)) (List.mem_cons_of_mem _ wi_4_14) (v := .ref (ad 3)) rfl dX5_arrange_51 ?_
          refine lv_iload_n hx hb dX5_arrange_54 rfl (lv_at hl 3 rfl) ?_
          refine lv_bipush (v := 24) hx hb dX5_arrange_55 (by decide) ?_
          refine lv_iload_n hx hb dX5_arrange_57 rfl (lv_at hl 0 rfl) ?_
          refine lv_ior hx hb dX5_arrange_58 ?_
          refine lv_aload_n hx hb dX5_arrange_59 rfl (lv_at hl 1 rfl) ?_
          refine eb_get (T := TX2) X hw (13 + v1.toNatClampNeg) 2 (by omega) (cE_i (by omega)) (by decide) (fun _ h => List.mem_cons_of_mem _ (inlX2 _ h)) (List.mem_cons_of_mem _ wi_7_1) (v := .int (σ.1 (13 + v1.toNatClampNeg) 2)) (eb_sI (cE_t (by omega) 2)) dX5_arrange_60 ?_
          refine lv_aload_n hx hb dX5_arrange_63 rfl (lv_at hl 1 rfl) ?_
          refine eb_get (T := TX2) X hw (13 + v1.toNatClampNeg) 3 (by omega) (cE_i (by omega)) (by decide) (fun _ h => List.mem_cons_of_mem _ (inlX2 _ h)) (List.mem_cons_of_mem _ wi_7_2) (v := .int (σ.1 (13 + v1.toNatClampNeg) 3)) (eb_sI (cE_t (by omega) 3)) dX5_arrange_64 ?_
          obtain ⟨z22, qz22⟩ : ∃ t : Int64, t = m_X6_napot (σ.1 (13 + v1.toNatClampNeg) 2) (σ.1 (13 + v1.toNatClampNeg) 3) := ⟨_, rfl⟩
          have hm : (fun (z23 : eb_St) => (fun (x24 : Int32) => m_X5_arrange_2  n z23 x24) (v1 + 1)) (m_X6_put σ v1 (24 ||| 7) z22) = mm := by rw [qz22]; exact hm
          have hc : eb_M l yX6_napot (Cond.code yX6_napot cX6_napot 2 (some .long) :: wsL_law) 0 0 D 33 cy cL ad σ [.int (σ.1 (13 + v1.toNatClampNeg) 2), .int (σ.1 (13 + v1.toNatClampNeg) 3)] (some (.long z22)) σ := by rw [qz22]; exact c_X6_napot l D cy ad σ (σ.1 (13 + v1.toNatClampNeg) 2) (σ.1 (13 + v1.toNatClampNeg) 3)
          refine eb_callS (n := 2) X hw hl.1 (rest := [.int (24 ||| 7), .int v1, .ref (ad 3)]) hc (eb_goodS wi_14_3 wi_14_4 wi_1_23 wi_14_5) rfl (by decide +kernel) ⟨by decide, by decide⟩ rfl rfl (Nat.le_of_ble_eq_true rfl) dX5_arrange_67 ⟨by decide, by decide⟩ (st' := [.long z22, .int (24 ||| 7), .int v1, .ref (ad 3)]) rfl (fun H locs hw => ?_)
          obtain ⟨z23, qz23⟩ : ∃ t : eb_St, t = m_X6_put σ v1 (24 ||| 7) z22 := ⟨_, rfl⟩
          have hm : (fun (x24 : Int32) => m_X5_arrange_2  n z23 x24) (v1 + 1) = mm := by rw [qz23]; exact hm
          have hc : eb_M l yX6_put (Cond.code yX6_put cX6_put 5 none :: wsL_law) 1 29 D 33 cy cL ad σ [.ref (ad 3), .int v1, .int (24 ||| 7), .long z22] (none) z23 := by rw [qz23]; exact c_X6_put l D cy ad σ v1 (24 ||| 7) z22
          refine eb_callV (n := 3) (as := [.int v1, .int (24 ||| 7), .long z22]) (rest := []) X hw hl.1 3 hc (by decide) ⟨rfl, rfl, rfl⟩ (eb_goodV wi_13_16 wi_13_17 wi_13_18 wi_1_23 wi_13_19) rfl (by decide +kernel) ⟨by decide, by decide⟩ rfl rfl (Nat.le_of_ble_eq_true rfl) dX5_arrange_70 ⟨by decide, by decide⟩ (st' := []) rfl (fun H locs hw => ?_)
          obtain ⟨x24, ex24⟩ : ∃ z : Int32, z = v1 + 1 := ⟨_, rfl⟩
          have hm : m_X5_arrange_2  n z23 x24 = mm := by rw [ex24]; exact hm
          refine lv_iinc (v := x24) (lv' := [(1, .int x24), (3, .int 7), (2, .ref (ad (13 + v1.toNatClampNeg))), (0, .ref (ad 10))]) hx hb dX5_arrange_73 hl (k := 3) rfl (by rw [ex24]; exact congrArg (v1 + ·) (by decide)) (by decide) rfl (fun ls hl => ?_)
          refine lv_goto (tgt := 2) hx hb dX5_arrange_76 (by decide) ?_
          exact ih z23 x24 (eb_up i0_ (eb_nle h1) ex24 hn).1 (eb_up i0_ (eb_nle h1) ex24 hn).2 hm hw (lv_sub hl [3, 0] rfl)
        · have hm := (if_pos h21).symm.trans hm
          refine lv_aload_n hx hb dX5_arrange_37 rfl (lv_at hl 2 rfl) ?_
          refine eb_get (T := TX5) X hw 10 2 (by decide) ⟨rfl, rfl, rfl⟩ (by decide) (fun _ h => List.mem_cons_of_mem _ (inlX5 _ h)) (List.mem_cons_of_mem _ wi_4_14) (v := .ref (ad 3)) rfl dX5_arrange_38 ?_
          refine lv_iload_n hx hb dX5_arrange_41 rfl (lv_at hl 3 rfl) ?_
          refine lv_iconst (v := 0) hx hb dX5_arrange_42 (by decide) ?_
          refine lv_lconst (v := 0) hx hb dX5_arrange_43 (by decide) ?_
          obtain ⟨z25, qz25⟩ : ∃ t : eb_St, t = m_X6_put σ v1 0 0 := ⟨_, rfl⟩
          have hm : (fun (x26 : Int32) => m_X5_arrange_2  n z25 x26) (v1 + 1) = mm := by rw [qz25]; exact hm
          have hc : eb_M l yX6_put (Cond.code yX6_put cX6_put 5 none :: wsL_law) 1 29 D 33 cy cL ad σ [.ref (ad 3), .int v1, .int 0, .long 0] (none) z25 := by rw [qz25]; exact c_X6_put l D cy ad σ v1 0 0
          refine eb_callV (n := 3) (as := [.int v1, .int 0, .long 0]) (rest := []) X hw hl.1 3 hc (by decide) ⟨rfl, rfl, rfl⟩ (eb_goodV wi_13_16 wi_13_17 wi_13_18 wi_1_23 wi_13_19) rfl (by decide +kernel) ⟨by decide, by decide⟩ rfl rfl (Nat.le_of_ble_eq_true rfl) dX5_arrange_44 ⟨by decide, by decide⟩ (st' := []) rfl (fun H locs hw => ?_)
          refine lv_goto (tgt := 73) hx hb dX5_arrange_47 (by decide) ?_
          obtain ⟨x26, ex26⟩ : ∃ z : Int32, z = v1 + 1 := ⟨_, rfl⟩
          have hm : m_X5_arrange_2  n z25 x26 = mm := by rw [ex26]; exact hm
          refine lv_iinc (v := x26) (lv' := [(1, .int x26), (3, .int 7), (2, .ref (ad (13 + v1.toNatClampNeg))), (0, .ref (ad 10))]) hx hb dX5_arrange_73 hl (k := 3) rfl (by rw [ex26]; exact congrArg (v1 + ·) (by decide)) (by decide) rfl (fun ls hl => ?_)
          refine lv_goto (tgt := 2) hx hb dX5_arrange_76 (by decide) ?_
          exact ih z25 x26 (eb_up i0_ (eb_nle h1) ex26 hn).1 (eb_up i0_ (eb_nle h1) ex26 hn).2 hm hw (lv_sub hl [3, 0] rfl)
set_option maxHeartbeats 4000000 in
set_option maxRecDepth 100000 in
theorem c_X5_arrange (l : Launch) (D : va_G) (cy : Nat → ClassId) (ad : Nat → Nat) (σ : eb_St)   : eb_M l yX5_arrange (Cond.code yX5_arrange cX5_arrange 4 none :: wsL_law) 2 53 D 33 cy cL ad σ [.ref (ad 10)] (none) (m_X5_arrange σ) := by
  refine eb_start (own := RX5) (by decide) rfl rfl (Nat.le_of_ble_eq_true rfl) ?_
  intro p e s m args below meth c A ls X hw hl
  have hl : lv_has ls 4 [(0, .ref (ad 10))] := hl
  have hx := X.1.1
  have hb := X.1.2.1
  have hown := X.1.2.2.2.1
  have hts := X.1.2.2.2.2
  generalize hm : m_X5_arrange σ = mm
  have hm : m_X5_arrange_2  7 σ 0 = mm := hm
  refine lv_iconst (v := 0) hx hb dX5_arrange_0 (by decide) ?_
  refine lv_istore_n (lv' := [(1, .int 0), (0, .ref (ad 10))]) hx hb dX5_arrange_1 rfl hl (by decide) rfl (fun ls hl => ?_)
  exact k_X5_arrange_2 X   7 σ 0 (by decide) (by decide) hm hw (lv_sub hl [1, 0] rfl)

set_option maxHeartbeats 4000000 in
set_option maxRecDepth 100000 in
theorem k_X5_leave_54 {p : Program} {l : Launch} {e : Env} {s : State} {m : MethodId} {args : Array Value} {below : List Frame} {meth : Method} {c : Code} {A : Nat → Prop} {H : Heap} {locs : List Loc} {ls : Array Slot} {D : va_G} {cy : Nat → ClassId} {ad : Nat → Nat} (X : eb_X p s m args meth c cX5_leave 4 RX5 (Cond.code yX5_leave cX5_leave 4 none :: wsL_law) none D cy A)   (σ : eb_St) (v1 : Int32) (v2 : Int64)  {mm : eb_St} (hm : (m_X5_leave_54  σ v1 v2) = mm) (hw : eb_H D 33 cy cL ad A s.heap σ H locs) (hl : lv_has ls 4 [(0, .ref (ad 10)), (1, .int v1), (2, .long v2)]) : W p l e ({ frames := 3, cells := 0, slots := 0, locals := 76 } : Room) s m args below meth c H locs 0 0 (MQ below (eb_Q D 33 cy cL ad A (none) mm) args s 0 0 A) (F0 m 54 ls []) := by
  have hx := X.1.1
  have hb := X.1.2.1
  have hown := X.1.2.2.2.1
  have hts := X.1.2.2.2.2
  have hm : (fun (z7 : eb_St) => (fun (z8 : eb_St) => (fun (z9 : eb_St) => z9) (m_X5_arrange z8)) (m_X7_set z7 6 11 v2)) (m_X7_set σ 6 10 v1.toInt64) = mm := hm
  refine lv_aload_n hx hb dX5_leave_54 rfl (lv_at hl 0 rfl) ?_
  refine eb_get (T := TX5) X hw 10 3 (by decide) ⟨rfl, rfl, rfl⟩ (by decide) (fun _ h => List.mem_cons_of_mem _ (inlX5 _ h)) (List.mem_cons_of_mem _ wi_4_15) (v := .ref (ad 25)) rfl dX5_leave_55 ?_
  refine lv_bipush (v := 10) hx hb dX5_leave_58 (by decide) ?_
  refine lv_iload_n hx hb dX5_leave_60 rfl (lv_at hl 1 rfl) ?_
  refine lv_i2l (v := v1.toInt64) hx hb dX5_leave_61 rfl ?_
  obtain ⟨z7, qz7⟩ : ∃ t : eb_St, t = m_X7_set σ 6 10 v1.toInt64 := ⟨_, rfl⟩
  have hm : (fun (z8 : eb_St) => (fun (z9 : eb_St) => z9) (m_X5_arrange z8)) (m_X7_set z7 6 11 v2) = mm := by rw [qz7]; exact hm
  have hc : eb_M l yX7_set (Cond.code yX7_set cX7_set 4 none :: wsL_law) 0 0 D 33 cy cL ad σ [.ref (ad 25), .int 10, .long v1.toInt64] (none) z7 := by rw [qz7]; exact c_X7_set l D cy ad σ 6 10 v1.toInt64 (by decide)
  refine eb_callV (n := 2) (as := [.int 10, .long v1.toInt64]) (rest := []) X hw hl.1 25 hc (by decide) ⟨rfl, rfl, rfl⟩ (eb_goodV wi_13_5 wi_13_6 wi_13_7 wi_2_7 wi_13_8) rfl (by decide +kernel) ⟨by decide, by decide⟩ rfl rfl (Nat.le_of_ble_eq_true rfl) dX5_leave_62 ⟨by decide, by decide⟩ (st' := []) rfl (fun H locs hw => ?_)
  refine lv_aload_n hx hb dX5_leave_65 rfl (lv_at hl 0 rfl) ?_
  refine eb_get (T := TX5) X hw 10 3 (by decide) ⟨rfl, rfl, rfl⟩ (by decide) (fun _ h => List.mem_cons_of_mem _ (inlX5 _ h)) (List.mem_cons_of_mem _ wi_4_15) (v := .ref (ad 25)) rfl dX5_leave_66 ?_
  refine lv_bipush (v := 11) hx hb dX5_leave_69 (by decide) ?_
  refine lv_lload_n hx hb dX5_leave_71 rfl (lv_at hl 2 rfl) ?_
  obtain ⟨z8, qz8⟩ : ∃ t : eb_St, t = m_X7_set z7 6 11 v2 := ⟨_, rfl⟩
  have hm : (fun (z9 : eb_St) => z9) (m_X5_arrange z8) = mm := by rw [qz8]; exact hm
  have hc : eb_M l yX7_set (Cond.code yX7_set cX7_set 4 none :: wsL_law) 0 0 D 33 cy cL ad z7 [.ref (ad 25), .int 11, .long v2] (none) z8 := by rw [qz8]; exact c_X7_set l D cy ad z7 6 11 v2 (by decide)
  refine eb_callV (n := 2) (as := [.int 11, .long v2]) (rest := []) X hw hl.1 25 hc (by decide) ⟨rfl, rfl, rfl⟩ (eb_goodV wi_13_5 wi_13_6 wi_13_7 wi_2_7 wi_13_8) rfl (by decide +kernel) ⟨by decide, by decide⟩ rfl rfl (Nat.le_of_ble_eq_true rfl) dX5_leave_72 ⟨by decide, by decide⟩ (st' := []) rfl (fun H locs hw => ?_)
  refine lv_aload_n hx hb dX5_leave_75 rfl (lv_at hl 0 rfl) ?_
  obtain ⟨z9, qz9⟩ : ∃ t : eb_St, t = m_X5_arrange z8 := ⟨_, rfl⟩
  have hm : z9 = mm := by rw [qz9]; exact hm
  have hc : eb_M l yX5_arrange (Cond.code yX5_arrange cX5_arrange 4 none :: wsL_law) 2 53 D 33 cy cL ad z8 [.ref (ad 10)] (none) z9 := by rw [qz9]; exact c_X5_arrange l D cy ad z8 
  refine eb_callV (n := 0) (as := []) (rest := []) X hw hl.1 10 hc (by decide) ⟨rfl, rfl, rfl⟩ (eb_goodV wi_13_9 wi_13_10 wi_13_11 wi_2_15 wi_13_12) rfl (by decide +kernel) ⟨by decide, by decide⟩ rfl rfl (Nat.le_of_ble_eq_true rfl) dX5_leave_76 ⟨by decide, by decide⟩ (st' := []) rfl (fun H locs hw => ?_)
  subst hm
  exact eb_vret X hw rfl rfl dX5_leave_79
set_option maxHeartbeats 4000000 in
set_option maxRecDepth 100000 in
theorem k_X5_leave_31 {p : Program} {l : Launch} {e : Env} {s : State} {m : MethodId} {args : Array Value} {below : List Frame} {meth : Method} {c : Code} {A : Nat → Prop} {H : Heap} {locs : List Loc} {ls : Array Slot} {D : va_G} {cy : Nat → ClassId} {ad : Nat → Nat} (X : eb_X p s m args meth c cX5_leave 4 RX5 (Cond.code yX5_leave cX5_leave 4 none :: wsL_law) none D cy A)   (σ : eb_St) (v1 : Int32) (v2 : Int64) (s0 : Int32) (s1 : Nat) (bs1 : s1 < 6) {mm : eb_St} (hm : (m_X5_leave_31  σ v1 v2 s0 s1) = mm) (hw : eb_H D 33 cy cL ad A s.heap σ H locs) (hl : lv_has ls 4 [(0, .ref (ad 10)), (1, .int v1), (2, .long v2)]) : W p l e ({ frames := 3, cells := 0, slots := 0, locals := 76 } : Room) s m args below meth c H locs 0 0 (MQ below (eb_Q D 33 cy cL ad A (none) mm) args s 0 0 A) (F0 m 31 ls [.int s0, .ref (ad (13 + s1))]) := by
  have hx := X.1.1
  have hb := X.1.2.1
  have hown := X.1.2.2.2.1
  have hts := X.1.2.2.2.2
  have hm : (if v1 = 1 then (fun (x6 : Int32) => m_X5_leave_54  (eb_pI (eb_pI (eb_pI σ (13 + s1) 1 s0) 10 6 (-1)) 10 12 x6) v1 v2) (((eb_pI (eb_pI σ (13 + s1) 1 s0) 10 6 (-1)).1 10 12) + 1) else m_X5_leave_54  (eb_pI (eb_pI σ (13 + s1) 1 s0) 10 6 (-1)) v1 v2) = mm := hm
  refine eb_putI (T := TX2) X hw (13 + s1) 1 (by omega) (cE_i (by omega)) (by decide) (cE_t (by omega) 1) (fun _ h => List.mem_cons_of_mem _ (inlX2 _ h)) (List.mem_cons_of_mem _ wi_7_0) tyX2 tyX2_ok nmX2 rfl rfl rfl dX5_leave_31 (fun H locs hw => ?_)
  refine lv_aload_n hx hb dX5_leave_34 rfl (lv_at hl 0 rfl) ?_
  refine lv_iconst (v := (-1)) hx hb dX5_leave_35 (by decide) ?_
  refine eb_putI (T := TX5) X hw 10 6 (by decide) ⟨rfl, rfl, rfl⟩ (by decide) rfl (fun _ h => List.mem_cons_of_mem _ (inlX5 _ h)) (List.mem_cons_of_mem _ wi_4_11) tyX5 tyX5_ok nmX5 rfl rfl rfl dX5_leave_36 (fun H locs hw => ?_)
  refine lv_iload_n hx hb dX5_leave_39 rfl (lv_at hl 1 rfl) ?_
  refine lv_iconst (v := 1) hx hb dX5_leave_40 (by decide) ?_
  refine lv_icmp_ne (tgt := 54) hx hb dX5_leave_41 (by decide) (fun h5 => ?_) (fun h5 => ?_)
  · have hm := (if_neg h5).symm.trans hm
    exact k_X5_leave_54 X   (eb_pI (eb_pI σ (13 + s1) 1 s0) 10 6 (-1)) v1 v2 hm hw (lv_sub hl [0, 1, 2] rfl)
  · have hm := (if_pos h5).symm.trans hm
    refine lv_aload_n hx hb dX5_leave_44 rfl (lv_at hl 0 rfl) ?_
    refine lv_dup hx hb dX5_leave_45 rfl ?_
    refine eb_get (T := TX5) X hw 10 12 (by decide) ⟨rfl, rfl, rfl⟩ (by decide) (fun _ h => List.mem_cons_of_mem _ (inlX5 _ h)) (List.mem_cons_of_mem _ wi_6_18) (v := .int ((eb_pI (eb_pI σ (13 + s1) 1 s0) 10 6 (-1)).1 10 12)) rfl dX5_leave_46 ?_
    refine lv_iconst (v := 1) hx hb dX5_leave_49 (by decide) ?_
    refine lv_iadd hx hb dX5_leave_50 ?_
    refine lv_topi (fun x6 ex6 => ?_)
    have hm : m_X5_leave_54  (eb_pI (eb_pI (eb_pI σ (13 + s1) 1 s0) 10 6 (-1)) 10 12 x6) v1 v2 = mm := by rw [ex6]; exact hm
    refine eb_putI (T := TX5) X hw 10 12 (by decide) ⟨rfl, rfl, rfl⟩ (by decide) rfl (fun _ h => List.mem_cons_of_mem _ (inlX5 _ h)) (List.mem_cons_of_mem _ wi_6_18) tyX5 tyX5_ok nmX5 rfl rfl rfl dX5_leave_51 (fun H locs hw => ?_)
    exact k_X5_leave_54 X   (eb_pI (eb_pI (eb_pI σ (13 + s1) 1 s0) 10 6 (-1)) 10 12 x6) v1 v2 hm hw (lv_sub hl [0, 1, 2] rfl)
set_option maxHeartbeats 4000000 in
set_option maxRecDepth 100000 in
theorem c_X5_leave (l : Launch) (D : va_G) (cy : Nat → ClassId) (ad : Nat → Nat) (σ : eb_St) (a0 : Int32) (a1 : Int64)  : eb_M l yX5_leave (Cond.code yX5_leave cX5_leave 4 none :: wsL_law) 3 76 D 33 cy cL ad σ [.ref (ad 10), .int a0, .long a1] (none) (m_X5_leave σ a0 a1) := by
  refine eb_start (own := RX5) (by decide) rfl rfl (Nat.le_of_ble_eq_true rfl) ?_
  intro p e s m args below meth c A ls X hw hl
  have hl : lv_has ls 4 [(0, .ref (ad 10)), (1, .int a0), (2, .long a1)] := hl
  have hx := X.1.1
  have hb := X.1.2.1
  have hown := X.1.2.2.2.1
  have hts := X.1.2.2.2.2
  generalize hm : m_X5_leave σ a0 a1 = mm
  have hm : (fun (z1 : Bool) => (if (eb_b z1) = 0 then σ else (if a0 = 2 then m_X5_leave_31  σ a0 a1 3 ((σ.1 10 6).toNatClampNeg) else m_X5_leave_31  σ a0 a1 2 ((σ.1 10 6).toNatClampNeg)))) (m_X5_isPlace ((σ.1 10 6).toInt64)) = mm := hm
  refine lv_aload_n hx hb dX5_leave_0 rfl (lv_at hl 0 rfl) ?_
  refine eb_get (T := TX5) X hw 10 6 (by decide) ⟨rfl, rfl, rfl⟩ (by decide) (fun _ h => List.mem_cons_of_mem _ (inlX5 _ h)) (List.mem_cons_of_mem _ wi_4_11) (v := .int (σ.1 10 6)) rfl dX5_leave_1 ?_
  refine lv_i2l (v := (σ.1 10 6).toInt64) hx hb dX5_leave_4 rfl ?_
  obtain ⟨z1, qz1⟩ : ∃ t : Bool, t = m_X5_isPlace ((σ.1 10 6).toInt64) := ⟨_, rfl⟩
  have hm : (if (eb_b z1) = 0 then σ else (if a0 = 2 then m_X5_leave_31  σ a0 a1 3 ((σ.1 10 6).toNatClampNeg) else m_X5_leave_31  σ a0 a1 2 ((σ.1 10 6).toNatClampNeg))) = mm := by rw [qz1]; exact hm
  have hc : eb_M l yX5_isPlace (Cond.code yX5_isPlace cX5_isPlace 2 (some .boolean) :: wsL_law) 0 0 D 33 cy cL ad σ [.long ((σ.1 10 6).toInt64)] (some (.int (eb_b z1))) σ := by rw [qz1]; exact c_X5_isPlace l D cy ad σ ((σ.1 10 6).toInt64)
  refine eb_callS (n := 1) X hw hl.1 (rest := []) hc (eb_goodS wi_13_1 wi_13_2 wi_2_15 wi_13_3) rfl (by decide +kernel) ⟨by decide, by decide⟩ rfl rfl (Nat.le_of_ble_eq_true rfl) dX5_leave_5 ⟨by decide, by decide⟩ (st' := [.int (eb_b z1)]) rfl (fun H locs hw => ?_)
  refine lv_if_ne (tgt := 12) hx hb dX5_leave_8 (by decide) (fun h2 => ?_) (fun h2 => ?_)
  · have hm := (if_neg h2).symm.trans hm
    refine lv_aload_n hx hb dX5_leave_12 rfl (lv_at hl 0 rfl) ?_
    refine eb_get (T := TX5) X hw 10 5 (by decide) ⟨rfl, rfl, rfl⟩ (by decide) (fun _ h => List.mem_cons_of_mem _ (inlX5 _ h)) (List.mem_cons_of_mem _ wi_4_10) (v := .ref (ad 12)) rfl dX5_leave_13 ?_
    refine lv_aload_n hx hb dX5_leave_16 rfl (lv_at hl 0 rfl) ?_
    refine eb_get (T := TX5) X hw 10 6 (by decide) ⟨rfl, rfl, rfl⟩ (by decide) (fun _ h => List.mem_cons_of_mem _ (inlX5 _ h)) (List.mem_cons_of_mem _ wi_4_11) (v := .int (σ.1 10 6)) rfl dX5_leave_17 ?_
    have b3 : (σ.1 10 6).toNatClampNeg < 6 := Nat.not_le.mp (fun q => (show vp_in (σ.1 10 6) 6 from (l_isPlaceI (by rw [← qz1]; exact h2))) (Or.inr q))
    refine eb_aald (n := 6) X hw 12 (by decide) rfl rfl (l_isPlaceI (by rw [← qz1]; exact h2)) (a := 13 + ((σ.1 10 6).toNatClampNeg)) rfl dX5_leave_20 ?_
    refine lv_iload_n hx hb dX5_leave_21 rfl (lv_at hl 1 rfl) ?_
    refine lv_iconst (v := 2) hx hb dX5_leave_22 (by decide) ?_
    refine lv_icmp_ne (tgt := 30) hx hb dX5_leave_23 (by decide) (fun h4 => ?_) (fun h4 => ?_)
    · have hm := (if_neg h4).symm.trans hm
      refine lv_iconst (v := 2) hx hb dX5_leave_30 (by decide) ?_
      exact k_X5_leave_31 X   σ a0 a1 2 ((σ.1 10 6).toNatClampNeg) (by omega) hm hw (lv_sub hl [0, 1, 2] rfl)
    · have hm := (if_pos h4).symm.trans hm
      refine lv_iconst (v := 3) hx hb dX5_leave_26 (by decide) ?_
      refine lv_goto (tgt := 31) hx hb dX5_leave_27 (by decide) ?_
      exact k_X5_leave_31 X   σ a0 a1 3 ((σ.1 10 6).toNatClampNeg) (by omega) hm hw (lv_sub hl [0, 1, 2] rfl)
  · have hm := (if_pos h2).symm.trans hm
    subst hm
    exact eb_vret X hw rfl rfl dX5_leave_11

set_option maxHeartbeats 4000000 in
set_option maxRecDepth 100000 in
theorem c_X5_takeInterrupt (l : Launch) (D : va_G) (cy : Nat → ClassId) (ad : Nat → Nat) (σ : eb_St)   : eb_M l yX5_takeInterrupt (Cond.code yX5_takeInterrupt cX5_takeInterrupt 1 none :: wsL_law) 4 99 D 33 cy cL ad σ [.ref (ad 10)] (none) (m_X5_takeInterrupt σ) := by
  refine eb_start (own := RX5) (by decide) rfl rfl (Nat.le_of_ble_eq_true rfl) ?_
  intro p e s m args below meth c A ls X hw hl
  have hl : lv_has ls 1 [(0, .ref (ad 10))] := hl
  have hx := X.1.1
  have hb := X.1.2.1
  have hown := X.1.2.2.2.1
  have hts := X.1.2.2.2.2
  generalize hm : m_X5_takeInterrupt σ = mm
  have hm : (if (σ.1 10 9) = 0 then σ else (if (σ.1 10 6) = (-1) then eb_pI (eb_pI σ 10 9 0) 10 13 ((σ.1 10 13) + 1) else (fun (z3 : eb_St) => z3) (m_X5_leave (eb_pI σ 10 9 0) 1 0))) = mm := hm
  refine lv_aload_n hx hb dX5_takeInterrupt_0 rfl (lv_at hl 0 rfl) ?_
  refine eb_get (T := TX5) X hw 10 9 (by decide) ⟨rfl, rfl, rfl⟩ (by decide) (fun _ h => List.mem_cons_of_mem _ (inlX5 _ h)) (List.mem_cons_of_mem _ wi_6_15) (v := .int (σ.1 10 9)) rfl dX5_takeInterrupt_1 ?_
  refine lv_if_ne (tgt := 8) hx hb dX5_takeInterrupt_4 (by decide) (fun h1 => ?_) (fun h1 => ?_)
  · have hm := (if_neg h1).symm.trans hm
    refine lv_aload_n hx hb dX5_takeInterrupt_8 rfl (lv_at hl 0 rfl) ?_
    refine lv_iconst (v := 0) hx hb dX5_takeInterrupt_9 (by decide) ?_
    refine eb_putI (T := TX5) X hw 10 9 (by decide) ⟨rfl, rfl, rfl⟩ (by decide) rfl (fun _ h => List.mem_cons_of_mem _ (inlX5 _ h)) (List.mem_cons_of_mem _ wi_6_15) tyX5 tyX5_ok nmX5 rfl rfl rfl dX5_takeInterrupt_10 (fun H locs hw => ?_)
    refine lv_aload_n hx hb dX5_takeInterrupt_13 rfl (lv_at hl 0 rfl) ?_
    refine eb_get (T := TX5) X hw 10 6 (by decide) ⟨rfl, rfl, rfl⟩ (by decide) (fun _ h => List.mem_cons_of_mem _ (inlX5 _ h)) (List.mem_cons_of_mem _ wi_4_11) (v := .int (σ.1 10 6)) rfl dX5_takeInterrupt_14 ?_
    refine lv_iconst (v := (-1)) hx hb dX5_takeInterrupt_17 (by decide) ?_
    refine lv_icmp_ne (tgt := 34) hx hb dX5_takeInterrupt_18 (by decide) (fun h2 => ?_) (fun h2 => ?_)
    · have hm := (if_neg h2).symm.trans hm
      refine lv_aload_n hx hb dX5_takeInterrupt_34 rfl (lv_at hl 0 rfl) ?_
      refine lv_iconst (v := 1) hx hb dX5_takeInterrupt_35 (by decide) ?_
      refine lv_lconst (v := 0) hx hb dX5_takeInterrupt_36 (by decide) ?_
      obtain ⟨z3, qz3⟩ : ∃ t : eb_St, t = m_X5_leave (eb_pI σ 10 9 0) 1 0 := ⟨_, rfl⟩
      have hm : z3 = mm := by rw [qz3]; exact hm
      have hc : eb_M l yX5_leave (Cond.code yX5_leave cX5_leave 4 none :: wsL_law) 3 76 D 33 cy cL ad (eb_pI σ 10 9 0) [.ref (ad 10), .int 1, .long 0] (none) z3 := by rw [qz3]; exact c_X5_leave l D cy ad (eb_pI σ 10 9 0) 1 0
      refine eb_callV (n := 2) (as := [.int 1, .long 0]) (rest := []) X hw hl.1 10 hc (by decide) ⟨rfl, rfl, rfl⟩ (eb_goodV wi_12_21 wi_12_22 wi_12_23 wi_2_15 wi_13_0) rfl (by decide +kernel) ⟨by decide, by decide⟩ rfl rfl (Nat.le_of_ble_eq_true rfl) dX5_takeInterrupt_37 ⟨by decide, by decide⟩ (st' := []) rfl (fun H locs hw => ?_)
      subst hm
      exact eb_vret X hw rfl rfl dX5_takeInterrupt_40
    · have hm := (if_pos h2).symm.trans hm
      refine lv_aload_n hx hb dX5_takeInterrupt_21 rfl (lv_at hl 0 rfl) ?_
      refine lv_dup hx hb dX5_takeInterrupt_22 rfl ?_
      refine eb_get (T := TX5) X hw 10 13 (by decide) ⟨rfl, rfl, rfl⟩ (by decide) (fun _ h => List.mem_cons_of_mem _ (inlX5 _ h)) (List.mem_cons_of_mem _ wi_6_19) (v := .int (σ.1 10 13)) rfl dX5_takeInterrupt_23 ?_
      refine lv_iconst (v := 1) hx hb dX5_takeInterrupt_26 (by decide) ?_
      refine lv_iadd hx hb dX5_takeInterrupt_27 ?_
      refine eb_putI (T := TX5) X hw 10 13 (by decide) ⟨rfl, rfl, rfl⟩ (by decide) rfl (fun _ h => List.mem_cons_of_mem _ (inlX5 _ h)) (List.mem_cons_of_mem _ wi_6_19) tyX5 tyX5_ok nmX5 rfl rfl rfl dX5_takeInterrupt_28 (fun H locs hw => ?_)
      refine lv_goto (tgt := 40) hx hb dX5_takeInterrupt_31 (by decide) ?_
      subst hm
      exact eb_vret X hw rfl rfl dX5_takeInterrupt_40
  · have hm := (if_pos h1).symm.trans hm
    subst hm
    exact eb_vret X hw rfl rfl dX5_takeInterrupt_7

set_option maxHeartbeats 4000000 in
set_option maxRecDepth 100000 in
theorem k_X5_meetsLiveMemory_3 {p : Program} {l : Launch} {e : Env} {s : State} {m : MethodId} {args : Array Value} {below : List Frame} {meth : Method} {c : Code} {A : Nat → Prop} {D : va_G} {cy : Nat → ClassId} {ad : Nat → Nat} (X : eb_X p s m args meth c cX5_meetsLiveMemory 7 RX5 (Cond.code yX5_meetsLiveMemory cX5_meetsLiveMemory 7 (some .boolean) :: wsL_law) (some .boolean) D cy A)   : ∀ (n : Nat) (σ : eb_St) (v1 : Int64) (v3 : Int64) (v5 : Int32)  (i0_ : 0 ≤ v5.toInt) (hn : ((6 : Int32).toInt - v5.toInt).toNat < n) {H : Heap} {locs : List Loc} {ls : Array Slot} {mm : Bool} (_ : (m_X5_meetsLiveMemory_3  n σ v1 v3 v5) = mm) (hw : eb_H D 33 cy cL ad A s.heap σ H locs) (hl : lv_has ls 7 [(0, .ref (ad 10)), (1, .long v1), (3, .long v3), (5, .int v5)]), W p l e ({ frames := 1, cells := 0, slots := 0, locals := 27 } : Room) s m args below meth c H locs 0 0 (MQ below (eb_Q D 33 cy cL ad A (some (.int (eb_b mm))) σ) args s 0 0 A) (F0 m 3 ls []) := by
  have hx := X.1.1
  have hb := X.1.2.1
  have hown := X.1.2.2.2.1
  have hts := X.1.2.2.2.2
  intro n
  induction n with
  | zero => intro σ v1 v3 v5 i0_ hn; exact absurd hn (Nat.not_lt_zero _)
  | succ n ih =>
    intro σ v1 v3 v5 i0_ hn H locs ls mm hm hw hl
    have hm : (if (6 : Int32) ≤ v5 then false else (if (σ.1 (13 + v5.toNatClampNeg) 1) = 0 then (fun (x4 : Int32) => m_X5_meetsLiveMemory_3  n σ v1 v3 x4) (v5 + 1) else (fun (z5 : Bool) => (if (eb_b z5) = 0 then (fun (x7 : Int32) => m_X5_meetsLiveMemory_3  n σ v1 v3 x7) (v5 + 1) else true)) (m_X8_meet v1 v3 ((σ.1 (13 + v5.toNatClampNeg) 2).toInt64) ((σ.1 (13 + v5.toNatClampNeg) 3).toInt64)))) = mm := hm
    refine lv_iload hx hb dX5_meetsLiveMemory_3 (lv_at hl 3 rfl) ?_
    refine lv_bipush (v := 6) hx hb dX5_meetsLiveMemory_5 (by decide) ?_
    refine lv_icmp_ge (tgt := 55) hx hb dX5_meetsLiveMemory_7 (by decide) (fun h1 => ?_) (fun h1 => ?_)
    · have hm := (if_pos h1).symm.trans hm
      refine lv_iconst (v := 0) hx hb dX5_meetsLiveMemory_55 (by decide) ?_
      subst hm
      exact eb_zret X hw rfl rfl rfl rfl dX5_meetsLiveMemory_56
    · have hm := (if_neg h1).symm.trans hm
      refine lv_aload_n hx hb dX5_meetsLiveMemory_10 rfl (lv_at hl 0 rfl) ?_
      refine eb_get (T := TX5) X hw 10 5 (by decide) ⟨rfl, rfl, rfl⟩ (by decide) (fun _ h => List.mem_cons_of_mem _ (inlX5 _ h)) (List.mem_cons_of_mem _ wi_4_10) (v := .ref (ad 12)) rfl dX5_meetsLiveMemory_11 ?_
      refine lv_iload hx hb dX5_meetsLiveMemory_14 (lv_at hl 3 rfl) ?_
      have b2 : v5.toNatClampNeg < 6 := Nat.not_le.mp (fun q => (show vp_in v5 6 from (eb_inU (by decide) i0_ (eb_nle h1))) (Or.inr q))
      refine eb_aald (n := 6) X hw 12 (by decide) rfl rfl (eb_inU (by decide) i0_ (eb_nle h1)) (a := 13 + v5.toNatClampNeg) rfl dX5_meetsLiveMemory_16 ?_
      refine lv_astore (lv' := [(6, .ref (ad (13 + v5.toNatClampNeg))), (0, .ref (ad 10)), (1, .long v1), (3, .long v3), (5, .int v5)]) hx hb dX5_meetsLiveMemory_17 hl (by decide) rfl (fun ls hl => ?_)
      refine lv_aload hx hb dX5_meetsLiveMemory_19 (lv_at hl 0 rfl) ?_
      refine eb_get (T := TX2) X hw (13 + v5.toNatClampNeg) 1 (by omega) (cE_i (by omega)) (by decide) (fun _ h => List.mem_cons_of_mem _ (inlX2 _ h)) (List.mem_cons_of_mem _ wi_7_0) (v := .int (σ.1 (13 + v5.toNatClampNeg) 1)) (eb_sI (cE_t (by omega) 1)) dX5_meetsLiveMemory_21 ?_
      refine lv_if_eq (tgt := 49) hx hb dX5_meetsLiveMemory_24 (by decide) (fun h3 => ?_) (fun h3 => ?_)
      · have hm := (if_pos h3).symm.trans hm
        obtain ⟨x4, ex4⟩ : ∃ z : Int32, z = v5 + 1 := ⟨_, rfl⟩
        have hm : m_X5_meetsLiveMemory_3  n σ v1 v3 x4 = mm := by rw [ex4]; exact hm
        refine lv_iinc (v := x4) (lv' := [(5, .int x4), (6, .ref (ad (13 + v5.toNatClampNeg))), (0, .ref (ad 10)), (1, .long v1), (3, .long v3)]) hx hb dX5_meetsLiveMemory_49 hl (k := 4) rfl (by rw [ex4]; exact congrArg (v5 + ·) (by decide)) (by decide) rfl (fun ls hl => ?_)
        refine lv_goto (tgt := 3) hx hb dX5_meetsLiveMemory_52 (by decide) ?_
        exact ih σ v1 v3 x4 (eb_up i0_ (eb_nle h1) ex4 hn).1 (eb_up i0_ (eb_nle h1) ex4 hn).2 hm hw (lv_sub hl [2, 3, 4, 0] rfl)
      · have hm := (if_neg h3).symm.trans hm
        refine lv_lload_n hx hb dX5_meetsLiveMemory_27 rfl (lv_at hl 2 rfl) ?_
        refine lv_lload_n hx hb dX5_meetsLiveMemory_28 rfl (lv_at hl 3 rfl) ?_
        refine lv_aload hx hb dX5_meetsLiveMemory_29 (lv_at hl 0 rfl) ?_
        refine eb_get (T := TX2) X hw (13 + v5.toNatClampNeg) 2 (by omega) (cE_i (by omega)) (by decide) (fun _ h => List.mem_cons_of_mem _ (inlX2 _ h)) (List.mem_cons_of_mem _ wi_7_1) (v := .int (σ.1 (13 + v5.toNatClampNeg) 2)) (eb_sI (cE_t (by omega) 2)) dX5_meetsLiveMemory_31 ?_
        refine lv_i2l (v := (σ.1 (13 + v5.toNatClampNeg) 2).toInt64) hx hb dX5_meetsLiveMemory_34 rfl ?_
        refine lv_aload hx hb dX5_meetsLiveMemory_35 (lv_at hl 0 rfl) ?_
        refine eb_get (T := TX2) X hw (13 + v5.toNatClampNeg) 3 (by omega) (cE_i (by omega)) (by decide) (fun _ h => List.mem_cons_of_mem _ (inlX2 _ h)) (List.mem_cons_of_mem _ wi_7_2) (v := .int (σ.1 (13 + v5.toNatClampNeg) 3)) (eb_sI (cE_t (by omega) 3)) dX5_meetsLiveMemory_37 ?_
        refine lv_i2l (v := (σ.1 (13 + v5.toNatClampNeg) 3).toInt64) hx hb dX5_meetsLiveMemory_40 rfl ?_
        obtain ⟨z5, qz5⟩ : ∃ t : Bool, t = m_X8_meet v1 v3 ((σ.1 (13 + v5.toNatClampNeg) 2).toInt64) ((σ.1 (13 + v5.toNatClampNeg) 3).toInt64) := ⟨_, rfl⟩
        have hm : (if (eb_b z5) = 0 then (fun (x7 : Int32) => m_X5_meetsLiveMemory_3  n σ v1 v3 x7) (v5 + 1) else true) = mm := by rw [qz5]; exact hm
        have hc : eb_M l yX8_meet (Cond.code yX8_meet cX8_meet 8 (some .boolean) :: wsL_law) 0 0 D 33 cy cL ad σ [.long v1, .long v3, .long ((σ.1 (13 + v5.toNatClampNeg) 2).toInt64), .long ((σ.1 (13 + v5.toNatClampNeg) 3).toInt64)] (some (.int (eb_b z5))) σ := by rw [qz5]; exact c_X8_meet l D cy ad σ v1 v3 ((σ.1 (13 + v5.toNatClampNeg) 2).toInt64) ((σ.1 (13 + v5.toNatClampNeg) 3).toInt64)
        refine eb_callS (n := 4) X hw hl.1 (rest := []) hc (eb_goodS wi_10_20 wi_10_21 wi_4_7 wi_10_22) rfl (by decide +kernel) ⟨by decide, by decide⟩ rfl rfl (Nat.le_of_ble_eq_true rfl) dX5_meetsLiveMemory_41 ⟨by decide, by decide⟩ (st' := [.int (eb_b z5)]) rfl (fun H locs hw => ?_)
        refine lv_if_eq (tgt := 49) hx hb dX5_meetsLiveMemory_44 (by decide) (fun h6 => ?_) (fun h6 => ?_)
        · have hm := (if_pos h6).symm.trans hm
          obtain ⟨x7, ex7⟩ : ∃ z : Int32, z = v5 + 1 := ⟨_, rfl⟩
          have hm : m_X5_meetsLiveMemory_3  n σ v1 v3 x7 = mm := by rw [ex7]; exact hm
          refine lv_iinc (v := x7) (lv' := [(5, .int x7), (6, .ref (ad (13 + v5.toNatClampNeg))), (0, .ref (ad 10)), (1, .long v1), (3, .long v3)]) hx hb dX5_meetsLiveMemory_49 hl (k := 4) rfl (by rw [ex7]; exact congrArg (v5 + ·) (by decide)) (by decide) rfl (fun ls hl => ?_)
          refine lv_goto (tgt := 3) hx hb dX5_meetsLiveMemory_52 (by decide) ?_
          exact ih σ v1 v3 x7 (eb_up i0_ (eb_nle h1) ex7 hn).1 (eb_up i0_ (eb_nle h1) ex7 hn).2 hm hw (lv_sub hl [2, 3, 4, 0] rfl)
        · have hm := (if_neg h6).symm.trans hm
          refine lv_iconst (v := 1) hx hb dX5_meetsLiveMemory_47 (by decide) ?_
          subst hm
          exact eb_zret X hw rfl rfl rfl rfl dX5_meetsLiveMemory_48
set_option maxHeartbeats 4000000 in
set_option maxRecDepth 100000 in
theorem c_X5_meetsLiveMemory (l : Launch) (D : va_G) (cy : Nat → ClassId) (ad : Nat → Nat) (σ : eb_St) (a0 : Int64) (a1 : Int64)  : eb_M l yX5_meetsLiveMemory (Cond.code yX5_meetsLiveMemory cX5_meetsLiveMemory 7 (some .boolean) :: wsL_law) 1 27 D 33 cy cL ad σ [.ref (ad 10), .long a0, .long a1] (some (.int (eb_b (m_X5_meetsLiveMemory σ a0 a1)))) σ := by
  refine eb_start (own := RX5) (by decide) rfl rfl (Nat.le_of_ble_eq_true rfl) ?_
  intro p e s m args below meth c A ls X hw hl
  have hl : lv_has ls 7 [(0, .ref (ad 10)), (1, .long a0), (3, .long a1)] := hl
  have hx := X.1.1
  have hb := X.1.2.1
  have hown := X.1.2.2.2.1
  have hts := X.1.2.2.2.2
  generalize hm : m_X5_meetsLiveMemory σ a0 a1 = mm
  have hm : m_X5_meetsLiveMemory_3  7 σ a0 a1 0 = mm := hm
  refine lv_iconst (v := 0) hx hb dX5_meetsLiveMemory_0 (by decide) ?_
  refine lv_istore (lv' := [(5, .int 0), (0, .ref (ad 10)), (1, .long a0), (3, .long a1)]) hx hb dX5_meetsLiveMemory_1 hl (by decide) rfl (fun ls hl => ?_)
  exact k_X5_meetsLiveMemory_3 X   7 σ a0 a1 0 (by decide) (by decide) hm hw (lv_sub hl [1, 2, 3, 0] rfl)

set_option maxHeartbeats 4000000 in
set_option maxRecDepth 100000 in
theorem k_X5_meetsLiveShare_3 {p : Program} {l : Launch} {e : Env} {s : State} {m : MethodId} {args : Array Value} {below : List Frame} {meth : Method} {c : Code} {A : Nat → Prop} {D : va_G} {cy : Nat → ClassId} {ad : Nat → Nat} (X : eb_X p s m args meth c cX5_meetsLiveShare 7 RX5 (Cond.code yX5_meetsLiveShare cX5_meetsLiveShare 7 (some .boolean) :: wsL_law) (some .boolean) D cy A)   : ∀ (n : Nat) (σ : eb_St) (v1 : Int64) (v3 : Int64) (v5 : Int32)  (i0_ : 0 ≤ v5.toInt) (hn : ((6 : Int32).toInt - v5.toInt).toNat < n) {H : Heap} {locs : List Loc} {ls : Array Slot} {mm : Bool} (_ : (m_X5_meetsLiveShare_3  n σ v1 v3 v5) = mm) (hw : eb_H D 33 cy cL ad A s.heap σ H locs) (hl : lv_has ls 7 [(0, .ref (ad 10)), (1, .long v1), (3, .long v3), (5, .int v5)]), W p l e ({ frames := 1, cells := 0, slots := 0, locals := 27 } : Room) s m args below meth c H locs 0 0 (MQ below (eb_Q D 33 cy cL ad A (some (.int (eb_b mm))) σ) args s 0 0 A) (F0 m 3 ls []) := by
  have hx := X.1.1
  have hb := X.1.2.1
  have hown := X.1.2.2.2.1
  have hts := X.1.2.2.2.2
  intro n
  induction n with
  | zero => intro σ v1 v3 v5 i0_ hn; exact absurd hn (Nat.not_lt_zero _)
  | succ n ih =>
    intro σ v1 v3 v5 i0_ hn H locs ls mm hm hw hl
    have hm : (if (6 : Int32) ≤ v5 then false else (if (σ.1 (13 + v5.toNatClampNeg) 1) = 0 then (fun (x4 : Int32) => m_X5_meetsLiveShare_3  n σ v1 v3 x4) (v5 + 1) else (if (σ.1 (13 + v5.toNatClampNeg) 6) = 0 then (fun (x6 : Int32) => m_X5_meetsLiveShare_3  n σ v1 v3 x6) (v5 + 1) else (fun (z7 : Bool) => (if (eb_b z7) = 0 then (fun (x9 : Int32) => m_X5_meetsLiveShare_3  n σ v1 v3 x9) (v5 + 1) else true)) (m_X8_meet v1 v3 ((σ.1 (13 + v5.toNatClampNeg) 5).toInt64) ((σ.1 (13 + v5.toNatClampNeg) 6).toInt64))))) = mm := hm
    refine lv_iload hx hb dX5_meetsLiveShare_3 (lv_at hl 3 rfl) ?_
    refine lv_bipush (v := 6) hx hb dX5_meetsLiveShare_5 (by decide) ?_
    refine lv_icmp_ge (tgt := 63) hx hb dX5_meetsLiveShare_7 (by decide) (fun h1 => ?_) (fun h1 => ?_)
    · have hm := (if_pos h1).symm.trans hm
      refine lv_iconst (v := 0) hx hb dX5_meetsLiveShare_63 (by decide) ?_
      subst hm
      exact eb_zret X hw rfl rfl rfl rfl dX5_meetsLiveShare_64
    · have hm := (if_neg h1).symm.trans hm
      refine lv_aload_n hx hb dX5_meetsLiveShare_10 rfl (lv_at hl 0 rfl) ?_
      refine eb_get (T := TX5) X hw 10 5 (by decide) ⟨rfl, rfl, rfl⟩ (by decide) (fun _ h => List.mem_cons_of_mem _ (inlX5 _ h)) (List.mem_cons_of_mem _ wi_4_10) (v := .ref (ad 12)) rfl dX5_meetsLiveShare_11 ?_
      refine lv_iload hx hb dX5_meetsLiveShare_14 (lv_at hl 3 rfl) ?_
      have b2 : v5.toNatClampNeg < 6 := Nat.not_le.mp (fun q => (show vp_in v5 6 from (eb_inU (by decide) i0_ (eb_nle h1))) (Or.inr q))
      refine eb_aald (n := 6) X hw 12 (by decide) rfl rfl (eb_inU (by decide) i0_ (eb_nle h1)) (a := 13 + v5.toNatClampNeg) rfl dX5_meetsLiveShare_16 ?_
      refine lv_astore (lv' := [(6, .ref (ad (13 + v5.toNatClampNeg))), (0, .ref (ad 10)), (1, .long v1), (3, .long v3), (5, .int v5)]) hx hb dX5_meetsLiveShare_17 hl (by decide) rfl (fun ls hl => ?_)
      refine lv_aload hx hb dX5_meetsLiveShare_19 (lv_at hl 0 rfl) ?_
      refine eb_get (T := TX2) X hw (13 + v5.toNatClampNeg) 1 (by omega) (cE_i (by omega)) (by decide) (fun _ h => List.mem_cons_of_mem _ (inlX2 _ h)) (List.mem_cons_of_mem _ wi_7_0) (v := .int (σ.1 (13 + v5.toNatClampNeg) 1)) (eb_sI (cE_t (by omega) 1)) dX5_meetsLiveShare_21 ?_
      refine lv_if_eq (tgt := 57) hx hb dX5_meetsLiveShare_24 (by decide) (fun h3 => ?_) (fun h3 => ?_)
      · have hm := (if_pos h3).symm.trans hm
        obtain ⟨x4, ex4⟩ : ∃ z : Int32, z = v5 + 1 := ⟨_, rfl⟩
        have hm : m_X5_meetsLiveShare_3  n σ v1 v3 x4 = mm := by rw [ex4]; exact hm
        refine lv_iinc (v := x4) (lv' := [(5, .int x4), (6, .ref (ad (13 + v5.toNatClampNeg))), (0, .ref (ad 10)), (1, .long v1), (3, .long v3)]) hx hb dX5_meetsLiveShare_57 hl (k := 4) rfl (by rw [ex4]; exact congrArg (v5 + ·) (by decide)) (by decide) rfl (fun ls hl => ?_)
        refine lv_goto (tgt := 3) hx hb dX5_meetsLiveShare_60 (by decide) ?_
        exact ih σ v1 v3 x4 (eb_up i0_ (eb_nle h1) ex4 hn).1 (eb_up i0_ (eb_nle h1) ex4 hn).2 hm hw (lv_sub hl [2, 3, 4, 0] rfl)
      · have hm := (if_neg h3).symm.trans hm
        refine lv_aload hx hb dX5_meetsLiveShare_27 (lv_at hl 0 rfl) ?_
        refine eb_get (T := TX2) X hw (13 + v5.toNatClampNeg) 6 (by omega) (cE_i (by omega)) (by decide) (fun _ h => List.mem_cons_of_mem _ (inlX2 _ h)) (List.mem_cons_of_mem _ wi_13_13) (v := .int (σ.1 (13 + v5.toNatClampNeg) 6)) (eb_sI (cE_t (by omega) 6)) dX5_meetsLiveShare_29 ?_
        refine lv_if_eq (tgt := 57) hx hb dX5_meetsLiveShare_32 (by decide) (fun h5 => ?_) (fun h5 => ?_)
        · have hm := (if_pos h5).symm.trans hm
          obtain ⟨x6, ex6⟩ : ∃ z : Int32, z = v5 + 1 := ⟨_, rfl⟩
          have hm : m_X5_meetsLiveShare_3  n σ v1 v3 x6 = mm := by rw [ex6]; exact hm
          refine lv_iinc (v := x6) (lv' := [(5, .int x6), (6, .ref (ad (13 + v5.toNatClampNeg))), (0, .ref (ad 10)), (1, .long v1), (3, .long v3)]) hx hb dX5_meetsLiveShare_57 hl (k := 4) rfl (by rw [ex6]; exact congrArg (v5 + ·) (by decide)) (by decide) rfl (fun ls hl => ?_)
          refine lv_goto (tgt := 3) hx hb dX5_meetsLiveShare_60 (by decide) ?_
          exact ih σ v1 v3 x6 (eb_up i0_ (eb_nle h1) ex6 hn).1 (eb_up i0_ (eb_nle h1) ex6 hn).2 hm hw (lv_sub hl [2, 3, 4, 0] rfl)
        · have hm := (if_neg h5).symm.trans hm
          refine lv_lload_n hx hb dX5_meetsLiveShare_35 rfl (lv_at hl 2 rfl) ?_
          refine lv_lload_n hx hb dX5_meetsLiveShare_36 rfl (lv_at hl 3 rfl) ?_
          refine lv_aload hx hb dX5_meetsLiveShare_37 (lv_at hl 0 rfl) ?_
          refine eb_get (T := TX2) X hw (13 + v5.toNatClampNeg) 5 (by omega) (cE_i (by omega)) (by decide) (fun _ h => List.mem_cons_of_mem _ (inlX2 _ h)) (List.mem_cons_of_mem _ wi_13_14) (v := .int (σ.1 (13 + v5.toNatClampNeg) 5)) (eb_sI (cE_t (by omega) 5)) dX5_meetsLiveShare_39 ?_
          refine lv_i2l (v := (σ.1 (13 + v5.toNatClampNeg) 5).toInt64) hx hb dX5_meetsLiveShare_42 rfl ?_
          refine lv_aload hx hb dX5_meetsLiveShare_43 (lv_at hl 0 rfl) ?_
          refine eb_get (T := TX2) X hw (13 + v5.toNatClampNeg) 6 (by omega) (cE_i (by omega)) (by decide) (fun _ h => List.mem_cons_of_mem _ (inlX2 _ h)) (List.mem_cons_of_mem _ wi_13_13) (v := .int (σ.1 (13 + v5.toNatClampNeg) 6)) (eb_sI (cE_t (by omega) 6)) dX5_meetsLiveShare_45 ?_
          refine lv_i2l (v := (σ.1 (13 + v5.toNatClampNeg) 6).toInt64) hx hb dX5_meetsLiveShare_48 rfl ?_
          obtain ⟨z7, qz7⟩ : ∃ t : Bool, t = m_X8_meet v1 v3 ((σ.1 (13 + v5.toNatClampNeg) 5).toInt64) ((σ.1 (13 + v5.toNatClampNeg) 6).toInt64) := ⟨_, rfl⟩
          have hm : (if (eb_b z7) = 0 then (fun (x9 : Int32) => m_X5_meetsLiveShare_3  n σ v1 v3 x9) (v5 + 1) else true) = mm := by rw [qz7]; exact hm
          have hc : eb_M l yX8_meet (Cond.code yX8_meet cX8_meet 8 (some .boolean) :: wsL_law) 0 0 D 33 cy cL ad σ [.long v1, .long v3, .long ((σ.1 (13 + v5.toNatClampNeg) 5).toInt64), .long ((σ.1 (13 + v5.toNatClampNeg) 6).toInt64)] (some (.int (eb_b z7))) σ := by rw [qz7]; exact c_X8_meet l D cy ad σ v1 v3 ((σ.1 (13 + v5.toNatClampNeg) 5).toInt64) ((σ.1 (13 + v5.toNatClampNeg) 6).toInt64)
          refine eb_callS (n := 4) X hw hl.1 (rest := []) hc (eb_goodS wi_10_20 wi_10_21 wi_4_7 wi_10_22) rfl (by decide +kernel) ⟨by decide, by decide⟩ rfl rfl (Nat.le_of_ble_eq_true rfl) dX5_meetsLiveShare_49 ⟨by decide, by decide⟩ (st' := [.int (eb_b z7)]) rfl (fun H locs hw => ?_)
          refine lv_if_eq (tgt := 57) hx hb dX5_meetsLiveShare_52 (by decide) (fun h8 => ?_) (fun h8 => ?_)
          · have hm := (if_pos h8).symm.trans hm
            obtain ⟨x9, ex9⟩ : ∃ z : Int32, z = v5 + 1 := ⟨_, rfl⟩
            have hm : m_X5_meetsLiveShare_3  n σ v1 v3 x9 = mm := by rw [ex9]; exact hm
            refine lv_iinc (v := x9) (lv' := [(5, .int x9), (6, .ref (ad (13 + v5.toNatClampNeg))), (0, .ref (ad 10)), (1, .long v1), (3, .long v3)]) hx hb dX5_meetsLiveShare_57 hl (k := 4) rfl (by rw [ex9]; exact congrArg (v5 + ·) (by decide)) (by decide) rfl (fun ls hl => ?_)
            refine lv_goto (tgt := 3) hx hb dX5_meetsLiveShare_60 (by decide) ?_
            exact ih σ v1 v3 x9 (eb_up i0_ (eb_nle h1) ex9 hn).1 (eb_up i0_ (eb_nle h1) ex9 hn).2 hm hw (lv_sub hl [2, 3, 4, 0] rfl)
          · have hm := (if_neg h8).symm.trans hm
            refine lv_iconst (v := 1) hx hb dX5_meetsLiveShare_55 (by decide) ?_
            subst hm
            exact eb_zret X hw rfl rfl rfl rfl dX5_meetsLiveShare_56
set_option maxHeartbeats 4000000 in
set_option maxRecDepth 100000 in
theorem c_X5_meetsLiveShare (l : Launch) (D : va_G) (cy : Nat → ClassId) (ad : Nat → Nat) (σ : eb_St) (a0 : Int64) (a1 : Int64)  : eb_M l yX5_meetsLiveShare (Cond.code yX5_meetsLiveShare cX5_meetsLiveShare 7 (some .boolean) :: wsL_law) 1 27 D 33 cy cL ad σ [.ref (ad 10), .long a0, .long a1] (some (.int (eb_b (m_X5_meetsLiveShare σ a0 a1)))) σ := by
  refine eb_start (own := RX5) (by decide) rfl rfl (Nat.le_of_ble_eq_true rfl) ?_
  intro p e s m args below meth c A ls X hw hl
  have hl : lv_has ls 7 [(0, .ref (ad 10)), (1, .long a0), (3, .long a1)] := hl
  have hx := X.1.1
  have hb := X.1.2.1
  have hown := X.1.2.2.2.1
  have hts := X.1.2.2.2.2
  generalize hm : m_X5_meetsLiveShare σ a0 a1 = mm
  have hm : m_X5_meetsLiveShare_3  7 σ a0 a1 0 = mm := hm
  refine lv_iconst (v := 0) hx hb dX5_meetsLiveShare_0 (by decide) ?_
  refine lv_istore (lv' := [(5, .int 0), (0, .ref (ad 10)), (1, .long a0), (3, .long a1)]) hx hb dX5_meetsLiveShare_1 hl (by decide) rfl (fun ls hl => ?_)
  exact k_X5_meetsLiveShare_3 X   7 σ a0 a1 0 (by decide) (by decide) hm hw (lv_sub hl [1, 2, 3, 0] rfl)

set_option maxHeartbeats 4000000 in
set_option maxRecDepth 100000 in
theorem k_X5_freePlace_2 {p : Program} {l : Launch} {e : Env} {s : State} {m : MethodId} {args : Array Value} {below : List Frame} {meth : Method} {c : Code} {A : Nat → Prop} {D : va_G} {cy : Nat → ClassId} {ad : Nat → Nat} (X : eb_X p s m args meth c cX5_freePlace 2 RX5 (Cond.code yX5_freePlace cX5_freePlace 2 (some .int) :: wsL_law) (some .int) D cy A)   : ∀ (n : Nat) (σ : eb_St) (v1 : Int32)  (i0_ : 0 ≤ v1.toInt) (hn : ((6 : Int32).toInt - v1.toInt).toNat < n) {H : Heap} {locs : List Loc} {ls : Array Slot} {mm : Int32} (_ : (m_X5_freePlace_2  n σ v1) = mm) (hw : eb_H D 33 cy cL ad A s.heap σ H locs) (hl : lv_has ls 2 [(0, .ref (ad 10)), (1, .int v1)]), W p l e ({ frames := 0, cells := 0, slots := 0, locals := 0 } : Room) s m args below meth c H locs 0 0 (MQ below (eb_Q D 33 cy cL ad A (some (.int mm)) σ) args s 0 0 A) (F0 m 2 ls []) := by
  have hx := X.1.1
  have hb := X.1.2.1
  have hown := X.1.2.2.2.1
  have hts := X.1.2.2.2.2
  intro n
  induction n with
  | zero => intro σ v1 i0_ hn; exact absurd hn (Nat.not_lt_zero _)
  | succ n ih =>
    intro σ v1 i0_ hn H locs ls mm hm hw hl
    have hm : (if (6 : Int32) ≤ v1 then (-1) else (if (σ.1 (13 + v1.toNatClampNeg) 1) = 0 then v1 else (fun (x4 : Int32) => m_X5_freePlace_2  n σ x4) (v1 + 1))) = mm := hm
    refine lv_iload_n hx hb dX5_freePlace_2 rfl (lv_at hl 1 rfl) ?_
    refine lv_bipush (v := 6) hx hb dX5_freePlace_3 (by decide) ?_
    refine lv_icmp_ge (tgt := 28) hx hb dX5_freePlace_5 (by decide) (fun h1 => ?_) (fun h1 => ?_)
    · have hm := (if_pos h1).symm.trans hm
      refine lv_iconst (v := (-1)) hx hb dX5_freePlace_28 (by decide) ?_
      subst hm
      exact eb_iret X hw rfl rfl rfl dX5_freePlace_29
    · have hm := (if_neg h1).symm.trans hm
      refine lv_aload_n hx hb dX5_freePlace_8 rfl (lv_at hl 0 rfl) ?_
      refine eb_get (T := TX5) X hw 10 5 (by decide) ⟨rfl, rfl, rfl⟩ (by decide) (fun _ h => List.mem_cons_of_mem _ (inlX5 _ h)) (List.mem_cons_of_mem _ wi_4_10) (v := .ref (ad 12)) rfl dX5_freePlace_9 ?_
      refine lv_iload_n hx hb dX5_freePlace_12 rfl (lv_at hl 1 rfl) ?_
      have b2 : v1.toNatClampNeg < 6 := Nat.not_le.mp (fun q => (show vp_in v1 6 from (eb_inU (by decide) i0_ (eb_nle h1))) (Or.inr q))
      refine eb_aald (n := 6) X hw 12 (by decide) rfl rfl (eb_inU (by decide) i0_ (eb_nle h1)) (a := 13 + v1.toNatClampNeg) rfl dX5_freePlace_13 ?_
      refine eb_get (T := TX2) X hw (13 + v1.toNatClampNeg) 1 (by omega) (cE_i (by omega)) (by decide) (fun _ h => List.mem_cons_of_mem _ (inlX2 _ h)) (List.mem_cons_of_mem _ wi_7_0) (v := .int (σ.1 (13 + v1.toNatClampNeg) 1)) (eb_sI (cE_t (by omega) 1)) dX5_freePlace_14 ?_
      refine lv_if_ne (tgt := 22) hx hb dX5_freePlace_17 (by decide) (fun h3 => ?_) (fun h3 => ?_)
      · have hm := (if_neg h3).symm.trans hm
        obtain ⟨x4, ex4⟩ : ∃ z : Int32, z = v1 + 1 := ⟨_, rfl⟩
        have hm : m_X5_freePlace_2  n σ x4 = mm := by rw [ex4]; exact hm
        refine lv_iinc (v := x4) (lv' := [(1, .int x4), (0, .ref (ad 10))]) hx hb dX5_freePlace_22 hl (k := 1) rfl (by rw [ex4]; exact congrArg (v1 + ·) (by decide)) (by decide) rfl (fun ls hl => ?_)
        refine lv_goto (tgt := 2) hx hb dX5_freePlace_25 (by decide) ?_
        exact ih σ x4 (eb_up i0_ (eb_nle h1) ex4 hn).1 (eb_up i0_ (eb_nle h1) ex4 hn).2 hm hw (lv_sub hl [1, 0] rfl)
      · have hm := (if_pos h3).symm.trans hm
        refine lv_iload_n hx hb dX5_freePlace_20 rfl (lv_at hl 1 rfl) ?_
        subst hm
        exact eb_iret X hw rfl rfl rfl dX5_freePlace_21
set_option maxHeartbeats 4000000 in
set_option maxRecDepth 100000 in
theorem c_X5_freePlace (l : Launch) (D : va_G) (cy : Nat → ClassId) (ad : Nat → Nat) (σ : eb_St)   : eb_M l yX5_freePlace (Cond.code yX5_freePlace cX5_freePlace 2 (some .int) :: wsL_law) 0 0 D 33 cy cL ad σ [.ref (ad 10)] (some (.int (m_X5_freePlace σ))) σ := by
  refine eb_start (own := RX5) (by decide) rfl rfl (Nat.le_of_ble_eq_true rfl) ?_
  intro p e s m args below meth c A ls X hw hl
  have hl : lv_has ls 2 [(0, .ref (ad 10))] := hl
  have hx := X.1.1
  have hb := X.1.2.1
  have hown := X.1.2.2.2.1
  have hts := X.1.2.2.2.2
  generalize hm : m_X5_freePlace σ = mm
  have hm : m_X5_freePlace_2  7 σ 0 = mm := hm
  refine lv_iconst (v := 0) hx hb dX5_freePlace_0 (by decide) ?_
  refine lv_istore_n (lv' := [(1, .int 0), (0, .ref (ad 10))]) hx hb dX5_freePlace_1 rfl hl (by decide) rfl (fun ls hl => ?_)
  exact k_X5_freePlace_2 X   7 σ 0 (by decide) (by decide) hm hw (lv_sub hl [1, 0] rfl)

set_option maxHeartbeats 4000000 in
set_option maxRecDepth 100000 in
theorem c_X5_requestMeetsAnother (l : Launch) (D : va_G) (cy : Nat → ClassId) (ad : Nat → Nat) (σ : eb_St)   : eb_M l yX5_requestMeetsAnother (Cond.code yX5_requestMeetsAnother cX5_requestMeetsAnother 1 (some .boolean) :: wsL_law) 2 53 D 33 cy cL ad σ [.ref (ad 10)] (some (.int (eb_b (m_X5_requestMeetsAnother σ)))) σ := by
  refine eb_start (own := RX5) (by decide) rfl rfl (Nat.le_of_ble_eq_true rfl) ?_
  intro p e s m args below meth c A ls X hw hl
  have hl : lv_has ls 1 [(0, .ref (ad 10))] := hl
  have hx := X.1.1
  have hb := X.1.2.1
  have hown := X.1.2.2.2.1
  have hts := X.1.2.2.2.2
  generalize hm : m_X5_requestMeetsAnother σ = mm
  have hm : (fun (z1 : Bool) => (if (eb_b z1) = 0 then (fun (z3 : Bool) => (if (eb_b z3) = 0 then (if (σ.2 11 6) = 0 then false else (fun (z6 : Bool) => (if (eb_b z6) = 0 then false else true)) (m_X5_meetsLiveMemory σ (σ.2 11 5) (σ.2 11 6))) else true)) (m_X5_meetsLiveShare σ (σ.2 11 0) (σ.2 11 1)) else true)) (m_X5_meetsLiveMemory σ (σ.2 11 0) (σ.2 11 1)) = mm := hm
  refine lv_aload_n hx hb dX5_requestMeetsAnother_0 rfl (lv_at hl 0 rfl) ?_
  refine lv_aload_n hx hb dX5_requestMeetsAnother_1 rfl (lv_at hl 0 rfl) ?_
  refine eb_get (T := TX5) X hw 10 4 (by decide) ⟨rfl, rfl, rfl⟩ (by decide) (fun _ h => List.mem_cons_of_mem _ (inlX5 _ h)) (List.mem_cons_of_mem _ wi_4_8) (v := .ref (ad 11)) rfl dX5_requestMeetsAnother_2 ?_
  refine eb_get (T := TX8) X hw 11 0 (by decide) ⟨rfl, rfl, rfl⟩ (by decide) (fun _ h => List.mem_cons_of_mem _ (inlX8 _ h)) (List.mem_cons_of_mem _ wi_25_14) (v := .long (σ.2 11 0)) rfl dX5_requestMeetsAnother_5 ?_
  refine lv_aload_n hx hb dX5_requestMeetsAnother_8 rfl (lv_at hl 0 rfl) ?_
  refine eb_get (T := TX5) X hw 10 4 (by decide) ⟨rfl, rfl, rfl⟩ (by decide) (fun _ h => List.mem_cons_of_mem _ (inlX5 _ h)) (List.mem_cons_of_mem _ wi_4_8) (v := .ref (ad 11)) rfl dX5_requestMeetsAnother_9 ?_
  refine eb_get (T := TX8) X hw 11 1 (by decide) ⟨rfl, rfl, rfl⟩ (by decide) (fun _ h => List.mem_cons_of_mem _ (inlX8 _ h)) (List.mem_cons_of_mem _ wi_25_15) (v := .long (σ.2 11 1)) rfl dX5_requestMeetsAnother_12 ?_
  obtain ⟨z1, qz1⟩ : ∃ t : Bool, t = m_X5_meetsLiveMemory σ (σ.2 11 0) (σ.2 11 1) := ⟨_, rfl⟩
  have hm : (if (eb_b z1) = 0 then (fun (z3 : Bool) => (if (eb_b z3) = 0 then (if (σ.2 11 6) = 0 then false else (fun (z6 : Bool) => (if (eb_b z6) = 0 then false else true)) (m_X5_meetsLiveMemory σ (σ.2 11 5) (σ.2 11 6))) else true)) (m_X5_meetsLiveShare σ (σ.2 11 0) (σ.2 11 1)) else true) = mm := by rw [qz1]; exact hm
  have hc : eb_M l yX5_meetsLiveMemory (Cond.code yX5_meetsLiveMemory cX5_meetsLiveMemory 7 (some .boolean) :: wsL_law) 1 27 D 33 cy cL ad σ [.ref (ad 10), .long (σ.2 11 0), .long (σ.2 11 1)] (some (.int (eb_b z1))) σ := by rw [qz1]; exact c_X5_meetsLiveMemory l D cy ad σ (σ.2 11 0) (σ.2 11 1)
  refine eb_callV (n := 2) (as := [.long (σ.2 11 0), .long (σ.2 11 1)]) (rest := []) X hw hl.1 10 hc (by decide) ⟨rfl, rfl, rfl⟩ (eb_goodV wi_25_18 wi_10_17 wi_10_18 wi_2_15 wi_10_19) rfl (by decide +kernel) ⟨by decide, by decide⟩ rfl rfl (Nat.le_of_ble_eq_true rfl) dX5_requestMeetsAnother_15 ⟨by decide, by decide⟩ (st' := [.int (eb_b z1)]) rfl (fun H locs hw => ?_)
  refine lv_if_ne (tgt := 75) hx hb dX5_requestMeetsAnother_18 (by decide) (fun h2 => ?_) (fun h2 => ?_)
  · have hm := (if_neg h2).symm.trans hm
    refine lv_iconst (v := 1) hx hb dX5_requestMeetsAnother_75 (by decide) ?_
    refine lv_goto (tgt := 80) hx hb dX5_requestMeetsAnother_76 (by decide) ?_
    subst hm
    exact eb_zret X hw rfl rfl rfl rfl dX5_requestMeetsAnother_80
  · have hm := (if_pos h2).symm.trans hm
    refine lv_aload_n hx hb dX5_requestMeetsAnother_21 rfl (lv_at hl 0 rfl) ?_
    refine lv_aload_n hx hb dX5_requestMeetsAnother_22 rfl (lv_at hl 0 rfl) ?_
    refine eb_get (T := TX5) X hw 10 4 (by decide) ⟨rfl, rfl, rfl⟩ (by decide) (fun _ h => List.mem_cons_of_mem _ (inlX5 _ h)) (List.mem_cons_of_mem _ wi_4_8) (v := .ref (ad 11)) rfl dX5_requestMeetsAnother_23 ?_
    refine eb_get (T := TX8) X hw 11 0 (by decide) ⟨rfl, rfl, rfl⟩ (by decide) (fun _ h => List.mem_cons_of_mem _ (inlX8 _ h)) (List.mem_cons_of_mem _ wi_25_14) (v := .long (σ.2 11 0)) rfl dX5_requestMeetsAnother_26 ?_
    refine lv_aload_n hx hb dX5_requestMeetsAnother_29 rfl (lv_at hl 0 rfl) ?_
    refine eb_get (T := TX5) X hw 10 4 (by decide) ⟨rfl, rfl, rfl⟩ (by decide) (fun _ h => List.mem_cons_of_mem _ (inlX5 _ h)) (List.mem_cons_of_mem _ wi_4_8) (v := .ref (ad 11)) rfl dX5_requestMeetsAnother_30 ?_
    refine eb_get (T := TX8) X hw 11 1 (by decide) ⟨rfl, rfl, rfl⟩ (by decide) (fun _ h => List.mem_cons_of_mem _ (inlX8 _ h)) (List.mem_cons_of_mem _ wi_25_15) (v := .long (σ.2 11 1)) rfl dX5_requestMeetsAnother_33 ?_
    obtain ⟨z3, qz3⟩ : ∃ t : Bool, t = m_X5_meetsLiveShare σ (σ.2 11 0) (σ.2 11 1) := ⟨_, rfl⟩
    have hm : (if (eb_b z3) = 0 then (if (σ.2 11 6) = 0 then false else (fun (z6 : Bool) => (if (eb_b z6) = 0 then false else true)) (m_X5_meetsLiveMemory σ (σ.2 11 5) (σ.2 11 6))) else true) = mm := by rw [qz3]; exact hm
    have hc : eb_M l yX5_meetsLiveShare (Cond.code yX5_meetsLiveShare cX5_meetsLiveShare 7 (some .boolean) :: wsL_law) 1 27 D 33 cy cL ad σ [.ref (ad 10), .long (σ.2 11 0), .long (σ.2 11 1)] (some (.int (eb_b z3))) σ := by rw [qz3]; exact c_X5_meetsLiveShare l D cy ad σ (σ.2 11 0) (σ.2 11 1)
    refine eb_callV (n := 2) (as := [.long (σ.2 11 0), .long (σ.2 11 1)]) (rest := []) X hw hl.1 10 hc (by decide) ⟨rfl, rfl, rfl⟩ (eb_goodV wi_25_19 wi_25_20 wi_25_21 wi_2_15 wi_25_22) rfl (by decide +kernel) ⟨by decide, by decide⟩ rfl rfl (Nat.le_of_ble_eq_true rfl) dX5_requestMeetsAnother_36 ⟨by decide, by decide⟩ (st' := [.int (eb_b z3)]) rfl (fun H locs hw => ?_)
    refine lv_if_ne (tgt := 75) hx hb dX5_requestMeetsAnother_39 (by decide) (fun h4 => ?_) (fun h4 => ?_)
    · have hm := (if_neg h4).symm.trans hm
      refine lv_iconst (v := 1) hx hb dX5_requestMeetsAnother_75 (by decide) ?_
      refine lv_goto (tgt := 80) hx hb dX5_requestMeetsAnother_76 (by decide) ?_
      subst hm
      exact eb_zret X hw rfl rfl rfl rfl dX5_requestMeetsAnother_80
    · have hm := (if_pos h4).symm.trans hm
      refine lv_aload_n hx hb dX5_requestMeetsAnother_42 rfl (lv_at hl 0 rfl) ?_
      refine eb_get (T := TX5) X hw 10 4 (by decide) ⟨rfl, rfl, rfl⟩ (by decide) (fun _ h => List.mem_cons_of_mem _ (inlX5 _ h)) (List.mem_cons_of_mem _ wi_4_8) (v := .ref (ad 11)) rfl dX5_requestMeetsAnother_43 ?_
      refine eb_get (T := TX8) X hw 11 6 (by decide) ⟨rfl, rfl, rfl⟩ (by decide) (fun _ h => List.mem_cons_of_mem _ (inlX8 _ h)) (List.mem_cons_of_mem _ wi_25_16) (v := .long (σ.2 11 6)) rfl dX5_requestMeetsAnother_46 ?_
      refine lv_lconst (v := 0) hx hb dX5_requestMeetsAnother_49 (by decide) ?_
      refine eb_lif_eq (tgt := 79) hx hb dX5_requestMeetsAnother_50 dX5_requestMeetsAnother_51 (by decide) (fun h5 => ?_) (fun h5 => ?_)
      · have hm := (if_pos h5).symm.trans hm
        refine lv_iconst (v := 0) hx hb dX5_requestMeetsAnother_79 (by decide) ?_
        subst hm
        exact eb_zret X hw rfl rfl rfl rfl dX5_requestMeetsAnother_80
      · have hm := (if_neg h5).symm.trans hm
        refine lv_aload_n hx hb dX5_requestMeetsAnother_54 rfl (lv_at hl 0 rfl) ?_
        refine lv_aload_n hx hb dX5_requestMeetsAnother_55 rfl (lv_at hl 0 rfl) ?_
        refine eb_get (T := TX5) X hw 10 4 (by decide) ⟨rfl, rfl, rfl⟩ (by decide) (fun _ h => List.mem_cons_of_mem _ (inlX5 _ h)) (List.mem_cons_of_mem _ wi_4_8) (v := .ref (ad 11)) rfl dX5_requestMeetsAnother_56 ?_
        refine eb_get (T := TX8) X hw 11 5 (by decide) ⟨rfl, rfl, rfl⟩ (by decide) (fun _ h => List.mem_cons_of_mem _ (inlX8 _ h)) (List.mem_cons_of_mem _ wi_25_17) (v := .long (σ.2 11 5)) rfl dX5_requestMeetsAnother_59 ?_
        refine lv_aload_n hx hb dX5_requestMeetsAnother_62 rfl (lv_at hl 0 rfl) ?_
        refine eb_get (T := TX5) X hw 10 4 (by decide) ⟨rfl, rfl, rfl⟩ (by decide) (fun _ h => List.mem_cons_of_mem _ (inlX5 _ h)) (List.mem_cons_of_mem _ wi_4_8) (v := .ref (ad 11)) rfl dX5_requestMeetsAnother_63 ?_
        refine eb_get (T := TX8) X hw 11 6 (by decide) ⟨rfl, rfl, rfl⟩ (by decide) (fun _ h => List.mem_cons_of_mem _ (inlX8 _ h)) (List.mem_cons_of_mem _ wi_25_16) (v := .long (σ.2 11 6)) rfl dX5_requestMeetsAnother_66 ?_
        obtain ⟨z6, qz6⟩ : ∃ t : Bool, t = m_X5_meetsLiveMemory σ (σ.2 11 5) (σ.2 11 6) := ⟨_, rfl⟩
        have hm : (if (eb_b z6) = 0 then false else true) = mm := by rw [qz6]; exact hm
        have hc : eb_M l yX5_meetsLiveMemory (Cond.code yX5_meetsLiveMemory cX5_meetsLiveMemory 7 (some .boolean) :: wsL_law) 1 27 D 33 cy cL ad σ [.ref (ad 10), .long (σ.2 11 5), .long (σ.2 11 6)] (some (.int (eb_b z6))) σ := by rw [qz6]; exact c_X5_meetsLiveMemory l D cy ad σ (σ.2 11 5) (σ.2 11 6)
        refine eb_callV (n := 2) (as := [.long (σ.2 11 5), .long (σ.2 11 6)]) (rest := []) X hw hl.1 10 hc (by decide) ⟨rfl, rfl, rfl⟩ (eb_goodV wi_25_18 wi_10_17 wi_10_18 wi_2_15 wi_10_19) rfl (by decide +kernel) ⟨by decide, by decide⟩ rfl rfl (Nat.le_of_ble_eq_true rfl) dX5_requestMeetsAnother_69 ⟨by decide, by decide⟩ (st' := [.int (eb_b z6)]) rfl (fun H locs hw => ?_)
        refine lv_if_eq (tgt := 79) hx hb dX5_requestMeetsAnother_72 (by decide) (fun h7 => ?_) (fun h7 => ?_)
        · have hm := (if_pos h7).symm.trans hm
          refine lv_iconst (v := 0) hx hb dX5_requestMeetsAnother_79 (by decide) ?_
          subst hm
          exact eb_zret X hw rfl rfl rfl rfl dX5_requestMeetsAnother_80
        · have hm := (if_neg h7).symm.trans hm
          refine lv_iconst (v := 1) hx hb dX5_requestMeetsAnother_75 (by decide) ?_
          refine lv_goto (tgt := 80) hx hb dX5_requestMeetsAnother_76 (by decide) ?_
          subst hm
          exact eb_zret X hw rfl rfl rfl rfl dX5_requestMeetsAnother_80

set_option maxHeartbeats 4000000 in
set_option maxRecDepth 100000 in
theorem k_X5_hostMayGiveWhatIsRequested_68 {p : Program} {l : Launch} {e : Env} {s : State} {m : MethodId} {args : Array Value} {below : List Frame} {meth : Method} {c : Code} {A : Nat → Prop} {H : Heap} {locs : List Loc} {ls : Array Slot} {D : va_G} {cy : Nat → ClassId} {ad : Nat → Nat} (X : eb_X p s m args meth c cX5_hostMayGiveWhatIsRequested 2 RX5 (Cond.code yX5_hostMayGiveWhatIsRequested cX5_hostMayGiveWhatIsRequested 2 (some .boolean) :: wsL_law) (some .boolean) D cy A)   (σ : eb_St)   {mm : Bool} (hm : (m_X5_hostMayGiveWhatIsRequested_68  σ ) = mm) (hw : eb_H D 33 cy cL ad A s.heap σ H locs) (hl : lv_has ls 2 [(0, .ref (ad 10))]) : W p l e ({ frames := 2, cells := 0, slots := 0, locals := 51 } : Room) s m args below meth c H locs 0 0 (MQ below (eb_Q D 33 cy cL ad A (some (.int (eb_b mm))) σ) args s 0 0 A) (F0 m 68 ls []) := by
  have hx := X.1.1
  have hb := X.1.2.1
  have hown := X.1.2.2.2.1
  have hts := X.1.2.2.2.2
  have hm : (if (σ.2 11 3) = 0 then true else (fun (z7 : Bool) => (if (eb_b z7) = 0 then false else true)) (m_X6_letsEach σ ((σ.2 11 2).toInt32) ((σ.2 11 3).toInt32) 1)) = mm := hm
  refine lv_aload_n hx hb dX5_hostMayGiveWhatIsRequested_68 rfl (lv_at hl 0 rfl) ?_
  refine eb_get (T := TX5) X hw 10 4 (by decide) ⟨rfl, rfl, rfl⟩ (by decide) (fun _ h => List.mem_cons_of_mem _ (inlX5 _ h)) (List.mem_cons_of_mem _ wi_4_8) (v := .ref (ad 11)) rfl dX5_hostMayGiveWhatIsRequested_69 ?_
  refine eb_get (T := TX8) X hw 11 3 (by decide) ⟨rfl, rfl, rfl⟩ (by decide) (fun _ h => List.mem_cons_of_mem _ (inlX8 _ h)) (List.mem_cons_of_mem _ wi_24_3) (v := .long (σ.2 11 3)) rfl dX5_hostMayGiveWhatIsRequested_72 ?_
  refine lv_lconst (v := 0) hx hb dX5_hostMayGiveWhatIsRequested_75 (by decide) ?_
  refine eb_lif_eq (tgt := 107) hx hb dX5_hostMayGiveWhatIsRequested_76 dX5_hostMayGiveWhatIsRequested_77 (by decide) (fun h6 => ?_) (fun h6 => ?_)
  · have hm := (if_pos h6).symm.trans hm
    refine lv_iconst (v := 1) hx hb dX5_hostMayGiveWhatIsRequested_107 (by decide) ?_
    refine lv_goto (tgt := 112) hx hb dX5_hostMayGiveWhatIsRequested_108 (by decide) ?_
    subst hm
    exact eb_zret X hw rfl rfl rfl rfl dX5_hostMayGiveWhatIsRequested_112
  · have hm := (if_neg h6).symm.trans hm
    refine lv_aload_n hx hb dX5_hostMayGiveWhatIsRequested_80 rfl (lv_at hl 0 rfl) ?_
    refine eb_get (T := TX5) X hw 10 2 (by decide) ⟨rfl, rfl, rfl⟩ (by decide) (fun _ h => List.mem_cons_of_mem _ (inlX5 _ h)) (List.mem_cons_of_mem _ wi_4_14) (v := .ref (ad 3)) rfl dX5_hostMayGiveWhatIsRequested_81 ?_
    refine lv_aload_n hx hb dX5_hostMayGiveWhatIsRequested_84 rfl (lv_at hl 0 rfl) ?_
    refine eb_get (T := TX5) X hw 10 4 (by decide) ⟨rfl, rfl, rfl⟩ (by decide) (fun _ h => List.mem_cons_of_mem _ (inlX5 _ h)) (List.mem_cons_of_mem _ wi_4_8) (v := .ref (ad 11)) rfl dX5_hostMayGiveWhatIsRequested_85 ?_
    refine eb_get (T := TX8) X hw 11 2 (by decide) ⟨rfl, rfl, rfl⟩ (by decide) (fun _ h => List.mem_cons_of_mem _ (inlX8 _ h)) (List.mem_cons_of_mem _ wi_24_4) (v := .long (σ.2 11 2)) rfl dX5_hostMayGiveWhatIsRequested_88 ?_
    refine lv_l2i (v := (σ.2 11 2).toInt32) hx hb dX5_hostMayGiveWhatIsRequested_91 rfl ?_
    refine lv_aload_n hx hb dX5_hostMayGiveWhatIsRequested_92 rfl (lv_at hl 0 rfl) ?_
    refine eb_get (T := TX5) X hw 10 4 (by decide) ⟨rfl, rfl, rfl⟩ (by decide) (fun _ h => List.mem_cons_of_mem _ (inlX5 _ h)) (List.mem_cons_of_mem _ wi_4_8) (v := .ref (ad 11)) rfl dX5_hostMayGiveWhatIsRequested_93 ?_
    refine eb_get (T := TX8) X hw 11 3 (by decide) ⟨rfl, rfl, rfl⟩ (by decide) (fun _ h => List.mem_cons_of_mem _ (inlX8 _ h)) (List.mem_cons_of_mem _ wi_24_3) (v := .long (σ.2 11 3)) rfl dX5_hostMayGiveWhatIsRequested_96 ?_
    refine lv_l2i (v := (σ.2 11 3).toInt32) hx hb dX5_hostMayGiveWhatIsRequested_99 rfl ?_
    refine lv_iconst (v := 1) hx hb dX5_hostMayGiveWhatIsRequested_100 (by decide) ?_
    obtain ⟨z7, qz7⟩ : ∃ t : Bool, t = m_X6_letsEach σ ((σ.2 11 2).toInt32) ((σ.2 11 3).toInt32) 1 := ⟨_, rfl⟩
    have hm : (if (eb_b z7) = 0 then false else true) = mm := by rw [qz7]; exact hm
    have hc : eb_M l yX6_letsEach (Cond.code yX6_letsEach cX6_letsEach 8 (some .boolean) :: wsL_law) 1 24 D 33 cy cL ad σ [.ref (ad 3), .int ((σ.2 11 2).toInt32), .int ((σ.2 11 3).toInt32), .int 1] (some (.int (eb_b z7))) σ := by rw [qz7]; exact c_X6_letsEach l D cy ad σ ((σ.2 11 2).toInt32) ((σ.2 11 3).toInt32) 1
    refine eb_callV (n := 3) (as := [.int ((σ.2 11 2).toInt32), .int ((σ.2 11 3).toInt32), .int 1]) (rest := []) X hw hl.1 3 hc (by decide) ⟨rfl, rfl, rfl⟩ (eb_goodV wi_26_3 wi_26_4 wi_26_5 wi_1_23 wi_26_6) rfl (by decide +kernel) ⟨by decide, by decide⟩ rfl rfl (Nat.le_of_ble_eq_true rfl) dX5_hostMayGiveWhatIsRequested_101 ⟨by decide, by decide⟩ (st' := [.int (eb_b z7)]) rfl (fun H locs hw => ?_)
    refine lv_if_eq (tgt := 111) hx hb dX5_hostMayGiveWhatIsRequested_104 (by decide) (fun h8 => ?_) (fun h8 => ?_)
    · have hm := (if_pos h8).symm.trans hm
      refine lv_iconst (v := 0) hx hb dX5_hostMayGiveWhatIsRequested_111 (by decide) ?_
      subst hm
      exact eb_zret X hw rfl rfl rfl rfl dX5_hostMayGiveWhatIsRequested_112
    · have hm := (if_neg h8).symm.trans hm
      refine lv_iconst (v := 1) hx hb dX5_hostMayGiveWhatIsRequested_107 (by decide) ?_
      refine lv_goto (tgt := 112) hx hb dX5_hostMayGiveWhatIsRequested_108 (by decide) ?_
      subst hm
      exact eb_zret X hw rfl rfl rfl rfl dX5_hostMayGiveWhatIsRequested_112
set_option maxHeartbeats 4000000 in
set_option maxRecDepth 100000 in
theorem c_X5_hostMayGiveWhatIsRequested (l : Launch) (D : va_G) (cy : Nat → ClassId) (ad : Nat → Nat) (σ : eb_St)   : eb_M l yX5_hostMayGiveWhatIsRequested (Cond.code yX5_hostMayGiveWhatIsRequested cX5_hostMayGiveWhatIsRequested 2 (some .boolean) :: wsL_law) 2 51 D 33 cy cL ad σ [.ref (ad 10)] (some (.int (eb_b (m_X5_hostMayGiveWhatIsRequested σ)))) σ := by
  refine eb_start (own := RX5) (by decide) rfl rfl (Nat.le_of_ble_eq_true rfl) ?_
  intro p e s m args below meth c A ls X hw hl
  have hl : lv_has ls 2 [(0, .ref (ad 10))] := hl
  have hx := X.1.1
  have hb := X.1.2.1
  have hown := X.1.2.2.2.1
  have hts := X.1.2.2.2.2
  generalize hm : m_X5_hostMayGiveWhatIsRequested σ = mm
  have hm : (fun (z1 : Bool) => (if (eb_b z1) = 0 then false else (if (σ.2 11 6) = 0 then m_X5_hostMayGiveWhatIsRequested_68  σ else (fun (z4 : Bool) => (if (eb_b z4) = 0 then false else m_X5_hostMayGiveWhatIsRequested_68  σ)) (m_X6_letsEach σ ((σ.2 11 5).toInt32) ((σ.2 11 6).toInt32) 3)))) (m_X6_letsEach σ ((σ.2 11 0).toInt32) ((σ.2 11 1).toInt32) 3) = mm := hm
  refine lv_iconst (v := 3) hx hb dX5_hostMayGiveWhatIsRequested_0 (by decide) ?_
  refine lv_istore_n (lv' := [(1, .int 3), (0, .ref (ad 10))]) hx hb dX5_hostMayGiveWhatIsRequested_1 rfl hl (by decide) rfl (fun ls hl => ?_)
  refine lv_aload_n hx hb dX5_hostMayGiveWhatIsRequested_2 rfl (lv_at hl 1 rfl) ?_
  refine eb_get (T := TX5) X hw 10 2 (by decide) ⟨rfl, rfl, rfl⟩ (by decide) (fun _ h => List.mem_cons_of_mem _ (inlX5 _ h)) (List.mem_cons_of_mem _ wi_4_14) (v := .ref (ad 3)) rfl dX5_hostMayGiveWhatIsRequested_3 ?_
  refine lv_aload_n hx hb dX5_hostMayGiveWhatIsRequested_6 rfl (lv_at hl 1 rfl) ?_
  refine eb_get (T := TX5) X hw 10 4 (by decide) ⟨rfl, rfl, rfl⟩ (by decide) (fun _ h => List.mem_cons_of_mem _ (inlX5 _ h)) (List.mem_cons_of_mem _ wi_4_8) (v := .ref (ad 11)) rfl dX5_hostMayGiveWhatIsRequested_7 ?_
  refine eb_get (T := TX8) X hw 11 0 (by decide) ⟨rfl, rfl, rfl⟩ (by decide) (fun _ h => List.mem_cons_of_mem _ (inlX8 _ h)) (List.mem_cons_of_mem _ wi_25_14) (v := .long (σ.2 11 0)) rfl dX5_hostMayGiveWhatIsRequested_10 ?_
  refine lv_l2i (v := (σ.2 11 0).toInt32) hx hb dX5_hostMayGiveWhatIsRequested_13 rfl ?_
  refine lv_aload_n hx hb dX5_hostMayGiveWhatIsRequested_14 rfl (lv_at hl 1 rfl) ?_
  refine eb_get (T := TX5) X hw 10 4 (by decide) ⟨rfl, rfl, rfl⟩ (by decide) (fun _ h => List.mem_cons_of_mem _ (inlX5 _ h)) (List.mem_cons_of_mem _ wi_4_8) (v := .ref (ad 11)) rfl dX5_hostMayGiveWhatIsRequested_15 ?_
  refine eb_get (T := TX8) X hw 11 1 (by decide) ⟨rfl, rfl, rfl⟩ (by decide) (fun _ h => List.mem_cons_of_mem _ (inlX8 _ h)) (List.mem_cons_of_mem _ wi_25_15) (v := .long (σ.2 11 1)) rfl dX5_hostMayGiveWhatIsRequested_18 ?_
  refine lv_l2i (v := (σ.2 11 1).toInt32) hx hb dX5_hostMayGiveWhatIsRequested_21 rfl ?_
  refine lv_iload_n hx hb dX5_hostMayGiveWhatIsRequested_22 rfl (lv_at hl 0 rfl) ?_
  obtain ⟨z1, qz1⟩ : ∃ t : Bool, t = m_X6_letsEach σ ((σ.2 11 0).toInt32) ((σ.2 11 1).toInt32) 3 := ⟨_, rfl⟩
  have hm : (if (eb_b z1) = 0 then false else (if (σ.2 11 6) = 0 then m_X5_hostMayGiveWhatIsRequested_68  σ else (fun (z4 : Bool) => (if (eb_b z4) = 0 then false else m_X5_hostMayGiveWhatIsRequested_68  σ)) (m_X6_letsEach σ ((σ.2 11 5).toInt32) ((σ.2 11 6).toInt32) 3))) = mm := by rw [qz1]; exact hm
  have hc : eb_M l yX6_letsEach (Cond.code yX6_letsEach cX6_letsEach 8 (some .boolean) :: wsL_law) 1 24 D 33 cy cL ad σ [.ref (ad 3), .int ((σ.2 11 0).toInt32), .int ((σ.2 11 1).toInt32), .int 3] (some (.int (eb_b z1))) σ := by rw [qz1]; exact c_X6_letsEach l D cy ad σ ((σ.2 11 0).toInt32) ((σ.2 11 1).toInt32) 3
  refine eb_callV (n := 3) (as := [.int ((σ.2 11 0).toInt32), .int ((σ.2 11 1).toInt32), .int 3]) (rest := []) X hw hl.1 3 hc (by decide) ⟨rfl, rfl, rfl⟩ (eb_goodV wi_26_3 wi_26_4 wi_26_5 wi_1_23 wi_26_6) rfl (by decide +kernel) ⟨by decide, by decide⟩ rfl rfl (Nat.le_of_ble_eq_true rfl) dX5_hostMayGiveWhatIsRequested_23 ⟨by decide, by decide⟩ (st' := [.int (eb_b z1)]) rfl (fun H locs hw => ?_)
  refine lv_if_eq (tgt := 111) hx hb dX5_hostMayGiveWhatIsRequested_26 (by decide) (fun h2 => ?_) (fun h2 => ?_)
  · have hm := (if_pos h2).symm.trans hm
    refine lv_iconst (v := 0) hx hb dX5_hostMayGiveWhatIsRequested_111 (by decide) ?_
    subst hm
    exact eb_zret X hw rfl rfl rfl rfl dX5_hostMayGiveWhatIsRequested_112
  · have hm := (if_neg h2).symm.trans hm
    refine lv_aload_n hx hb dX5_hostMayGiveWhatIsRequested_29 rfl (lv_at hl 1 rfl) ?_
    refine eb_get (T := TX5) X hw 10 4 (by decide) ⟨rfl, rfl, rfl⟩ (by decide) (fun _ h => List.mem_cons_of_mem _ (inlX5 _ h)) (List.mem_cons_of_mem _ wi_4_8) (v := .ref (ad 11)) rfl dX5_hostMayGiveWhatIsRequested_30 ?_
    refine eb_get (T := TX8) X hw 11 6 (by decide) ⟨rfl, rfl, rfl⟩ (by decide) (fun _ h => List.mem_cons_of_mem _ (inlX8 _ h)) (List.mem_cons_of_mem _ wi_25_16) (v := .long (σ.2 11 6)) rfl dX5_hostMayGiveWhatIsRequested_33 ?_
    refine lv_lconst (v := 0) hx hb dX5_hostMayGiveWhatIsRequested_36 (by decide) ?_
    refine eb_lif_eq (tgt := 68) hx hb dX5_hostMayGiveWhatIsRequested_37 dX5_hostMayGiveWhatIsRequested_38 (by decide) (fun h3 => ?_) (fun h3 => ?_)
    · have hm := (if_pos h3).symm.trans hm
      exact k_X5_hostMayGiveWhatIsRequested_68 X   σ hm hw (lv_sub hl [1] rfl)
    · have hm := (if_neg h3).symm.trans hm
      refine lv_aload_n hx hb dX5_hostMayGiveWhatIsRequested_41 rfl (lv_at hl 1 rfl) ?_
      refine eb_get (T := TX5) X hw 10 2 (by decide) ⟨rfl, rfl, rfl⟩ (by decide) (fun _ h => List.mem_cons_of_mem _ (inlX5 _ h)) (List.mem_cons_of_mem _ wi_4_14) (v := .ref (ad 3)) rfl dX5_hostMayGiveWhatIsRequested_42 ?_
      refine lv_aload_n hx hb dX5_hostMayGiveWhatIsRequested_45 rfl (lv_at hl 1 rfl) ?_
      refine eb_get (T := TX5) X hw 10 4 (by decide) ⟨rfl, rfl, rfl⟩ (by decide) (fun _ h => List.mem_cons_of_mem _ (inlX5 _ h)) (List.mem_cons_of_mem _ wi_4_8) (v := .ref (ad 11)) rfl dX5_hostMayGiveWhatIsRequested_46 ?_
      refine eb_get (T := TX8) X hw 11 5 (by decide) ⟨rfl, rfl, rfl⟩ (by decide) (fun _ h => List.mem_cons_of_mem _ (inlX8 _ h)) (List.mem_cons_of_mem _ wi_25_17) (v := .long (σ.2 11 5)) rfl dX5_hostMayGiveWhatIsRequested_49 ?_
      refine lv_l2i (v := (σ.2 11 5).toInt32) hx hb dX5_hostMayGiveWhatIsRequested_52 rfl ?_
      refine lv_aload_n hx hb dX5_hostMayGiveWhatIsRequested_53 rfl (lv_at hl 1 rfl) ?_
      refine eb_get (T := TX5) X hw 10 4 (by decide) ⟨rfl, rfl, rfl⟩ (by decide) (fun _ h => List.mem_cons_of_mem _ (inlX5 _ h)) (List.mem_cons_of_mem _ wi_4_8) (v := .ref (ad 11)) rfl dX5_hostMayGiveWhatIsRequested_54 ?_
      refine eb_get (T := TX8) X hw 11 6 (by decide) ⟨rfl, rfl, rfl⟩ (by decide) (fun _ h => List.mem_cons_of_mem _ (inlX8 _ h)) (List.mem_cons_of_mem _ wi_25_16) (v := .long (σ.2 11 6)) rfl dX5_hostMayGiveWhatIsRequested_57 ?_
      refine lv_l2i (v := (σ.2 11 6).toInt32) hx hb dX5_hostMayGiveWhatIsRequested_60 rfl ?_
      refine lv_iload_n hx hb dX5_hostMayGiveWhatIsRequested_61 rfl (lv_at hl 0 rfl) ?_
      obtain ⟨z4, qz4⟩ : ∃ t : Bool, t = m_X6_letsEach σ ((σ.2 11 5).toInt32) ((σ.2 11 6).toInt32) 3 := ⟨_, rfl⟩
      have hm : (if (eb_b z4) = 0 then false else m_X5_hostMayGiveWhatIsRequested_68  σ) = mm := by rw [qz4]; exact hm
      have hc : eb_M l yX6_letsEach (Cond.code yX6_letsEach cX6_letsEach 8 (some .boolean) :: wsL_law) 1 24 D 33 cy cL ad σ [.ref (ad 3), .int ((σ.2 11 5).toInt32), .int ((σ.2 11 6).toInt32), .int 3] (some (.int (eb_b z4))) σ := by rw [qz4]; exact c_X6_letsEach l D cy ad σ ((σ.2 11 5).toInt32) ((σ.2 11 6).toInt32) 3
      refine eb_callV (n := 3) (as := [.int ((σ.2 11 5).toInt32), .int ((σ.2 11 6).toInt32), .int 3]) (rest := []) X hw hl.1 3 hc (by decide) ⟨rfl, rfl, rfl⟩ (eb_goodV wi_26_3 wi_26_4 wi_26_5 wi_1_23 wi_26_6) rfl (by decide +kernel) ⟨by decide, by decide⟩ rfl rfl (Nat.le_of_ble_eq_true rfl) dX5_hostMayGiveWhatIsRequested_62 ⟨by decide, by decide⟩ (st' := [.int (eb_b z4)]) rfl (fun H locs hw => ?_)
      refine lv_if_eq (tgt := 111) hx hb dX5_hostMayGiveWhatIsRequested_65 (by decide) (fun h5 => ?_) (fun h5 => ?_)
      · have hm := (if_pos h5).symm.trans hm
        refine lv_iconst (v := 0) hx hb dX5_hostMayGiveWhatIsRequested_111 (by decide) ?_
        subst hm
        exact eb_zret X hw rfl rfl rfl rfl dX5_hostMayGiveWhatIsRequested_112
      · have hm := (if_neg h5).symm.trans hm
        exact k_X5_hostMayGiveWhatIsRequested_68 X   σ hm hw (lv_sub hl [1] rfl)

set_option maxHeartbeats 4000000 in
set_option maxRecDepth 100000 in
theorem c_X5_create (l : Launch) (D : va_G) (cy : Nat → ClassId) (ad : Nat → Nat) (σ : eb_St)   : eb_M l yX5_create (Cond.code yX5_create cX5_create 6 (some .long) :: wsL_law) 3 76 D 33 cy cL ad σ [.ref (ad 10)] (some (.long (m_X5_create σ).1)) ((m_X5_create σ).2) := by
  refine eb_start (own := RX5) (by decide) rfl rfl (Nat.le_of_ble_eq_true rfl) ?_
  intro p e s m args below meth c A ls X hw hl
  have hl : lv_has ls 6 [(0, .ref (ad 10))] := hl
  have hx := X.1.1
  have hb := X.1.2.1
  have hown := X.1.2.2.2.1
  have hts := X.1.2.2.2.2
  generalize hm : m_X5_create σ = mm
  have hm : (fun (z1 : eb_St) => (fun (z2 : Bool) => (if (eb_b z2) = 0 then ((-1), z1) else (fun (z4 : Bool) => (if (eb_b z4) = 0 then (fun (z6 : Bool) => (if (eb_b z6) = 0 then ((-4), z1) else (fun (z8 : Int32) => (if z8 = (-1) then ((-3), z1) else (fun (z11 : Int64) => (fun (z12 : Int64) => (fun (z13 : eb_St) => (fun (x14 : Int32) => (fun (z15 : eb_St) => (fun (z16 : eb_St) => (fun (z17 : eb_St) => (z8.toInt64, z17)) (m_X5_arrange (eb_pI z16 10 10 ((z16.1 10 10) + 1)))) (m_X4_zero z15 ((z15.1 (13 + z8.toNatClampNeg) 2) + x14) ((z15.1 (13 + z8.toNatClampNeg) 2) + (z15.1 (13 + z8.toNatClampNeg) 3)))) (m_X4_copy z13 ((z13.2 11 2).toInt32) (z13.1 (13 + z8.toNatClampNeg) 2) x14)) ((z13.2 11 3).toInt32)) (m_X2_begin z1 z8.toNatClampNeg z11 z12)) (m_X5_keyOf z1 z11)) (m_X5_measureOfRequest z1))) (m_X5_freePlace z1))) (m_X5_hostMayGiveWhatIsRequested z1) else ((-2), z1))) (m_X5_requestMeetsAnother z1))) (m_X8_isToldRightly z1)) (m_X8_take σ 6) = mm := hm
  refine lv_aload_n hx hb dX5_create_0 rfl (lv_at hl 0 rfl) ?_
  refine eb_get (T := TX5) X hw 10 4 (by decide) ⟨rfl, rfl, rfl⟩ (by decide) (fun _ h => List.mem_cons_of_mem _ (inlX5 _ h)) (List.mem_cons_of_mem _ wi_4_8) (v := .ref (ad 11)) rfl dX5_create_1 ?_
  refine lv_aload_n hx hb dX5_create_4 rfl (lv_at hl 0 rfl) ?_
  refine eb_get (T := TX5) X hw 10 3 (by decide) ⟨rfl, rfl, rfl⟩ (by decide) (fun _ h => List.mem_cons_of_mem _ (inlX5 _ h)) (List.mem_cons_of_mem _ wi_4_15) (v := .ref (ad 25)) rfl dX5_create_5 ?_
  obtain ⟨z1, qz1⟩ : ∃ t : eb_St, t = m_X8_take σ 6 := ⟨_, rfl⟩
  have hm : (fun (z2 : Bool) => (if (eb_b z2) = 0 then ((-1), z1) else (fun (z4 : Bool) => (if (eb_b z4) = 0 then (fun (z6 : Bool) => (if (eb_b z6) = 0 then ((-4), z1) else (fun (z8 : Int32) => (if z8 = (-1) then ((-3), z1) else (fun (z11 : Int64) => (fun (z12 : Int64) => (fun (z13 : eb_St) => (fun (x14 : Int32) => (fun (z15 : eb_St) => (fun (z16 : eb_St) => (fun (z17 : eb_St) => (z8.toInt64, z17)) (m_X5_arrange (eb_pI z16 10 10 ((z16.1 10 10) + 1)))) (m_X4_zero z15 ((z15.1 (13 + z8.toNatClampNeg) 2) + x14) ((z15.1 (13 + z8.toNatClampNeg) 2) + (z15.1 (13 + z8.toNatClampNeg) 3)))) (m_X4_copy z13 ((z13.2 11 2).toInt32) (z13.1 (13 + z8.toNatClampNeg) 2) x14)) ((z13.2 11 3).toInt32)) (m_X2_begin z1 z8.toNatClampNeg z11 z12)) (m_X5_keyOf z1 z11)) (m_X5_measureOfRequest z1))) (m_X5_freePlace z1))) (m_X5_hostMayGiveWhatIsRequested z1) else ((-2), z1))) (m_X5_requestMeetsAnother z1))) (m_X8_isToldRightly z1) = mm := by rw [qz1]; exact hm
  have hc : eb_M l yX8_take (Cond.code yX8_take cX8_take 2 none :: wsL_law) 1 21 D 33 cy cL ad σ [.ref (ad 11), .ref (ad 25)] (none) z1 := by rw [qz1]; exact c_X8_take l D cy ad σ 6 (by decide)
  refine eb_callV (n := 1) (as := [.ref (ad 25)]) (rest := []) X hw hl.1 11 hc (by decide) ⟨rfl, rfl, rfl⟩ (eb_goodV wi_24_5 wi_24_6 wi_24_7 wi_4_7 wi_24_8) rfl (by decide +kernel) ⟨by decide, by decide⟩ rfl rfl (Nat.le_of_ble_eq_true rfl) dX5_create_8 ⟨by decide, by decide⟩ (st' := []) rfl (fun H locs hw => ?_)
  refine lv_aload_n hx hb dX5_create_11 rfl (lv_at hl 0 rfl) ?_
  refine eb_get (T := TX5) X hw 10 4 (by decide) ⟨rfl, rfl, rfl⟩ (by decide) (fun _ h => List.mem_cons_of_mem _ (inlX5 _ h)) (List.mem_cons_of_mem _ wi_4_8) (v := .ref (ad 11)) rfl dX5_create_12 ?_
  obtain ⟨z2, qz2⟩ : ∃ t : Bool, t = m_X8_isToldRightly z1 := ⟨_, rfl⟩
  have hm : (if (eb_b z2) = 0 then ((-1), z1) else (fun (z4 : Bool) => (if (eb_b z4) = 0 then (fun (z6 : Bool) => (if (eb_b z6) = 0 then ((-4), z1) else (fun (z8 : Int32) => (if z8 = (-1) then ((-3), z1) else (fun (z11 : Int64) => (fun (z12 : Int64) => (fun (z13 : eb_St) => (fun (x14 : Int32) => (fun (z15 : eb_St) => (fun (z16 : eb_St) => (fun (z17 : eb_St) => (z8.toInt64, z17)) (m_X5_arrange (eb_pI z16 10 10 ((z16.1 10 10) + 1)))) (m_X4_zero z15 ((z15.1 (13 + z8.toNatClampNeg) 2) + x14) ((z15.1 (13 + z8.toNatClampNeg) 2) + (z15.1 (13 + z8.toNatClampNeg) 3)))) (m_X4_copy z13 ((z13.2 11 2).toInt32) (z13.1 (13 + z8.toNatClampNeg) 2) x14)) ((z13.2 11 3).toInt32)) (m_X2_begin z1 z8.toNatClampNeg z11 z12)) (m_X5_keyOf z1 z11)) (m_X5_measureOfRequest z1))) (m_X5_freePlace z1))) (m_X5_hostMayGiveWhatIsRequested z1) else ((-2), z1))) (m_X5_requestMeetsAnother z1)) = mm := by rw [qz2]; exact hm
  have hc : eb_M l yX8_isToldRightly (Cond.code yX8_isToldRightly cX8_isToldRightly 1 (some .boolean) :: wsL_law) 2 47 D 33 cy cL ad z1 [.ref (ad 11)] (some (.int (eb_b z2))) z1 := by rw [qz2]; exact c_X8_isToldRightly l D cy ad z1 
  refine eb_callV (n := 0) (as := []) (rest := []) X hw hl.1 11 hc (by decide) ⟨rfl, rfl, rfl⟩ (eb_goodV wi_24_17 wi_24_18 wi_24_19 wi_4_7 wi_24_20) rfl (by decide +kernel) ⟨by decide, by decide⟩ rfl rfl (Nat.le_of_ble_eq_true rfl) dX5_create_15 ⟨by decide, by decide⟩ (st' := [.int (eb_b z2)]) rfl (fun H locs hw => ?_)
  refine lv_if_ne (tgt := 25) hx hb dX5_create_18 (by decide) (fun h3 => ?_) (fun h3 => ?_)
  · have hm := (if_neg h3).symm.trans hm
    refine lv_aload_n hx hb dX5_create_25 rfl (lv_at hl 0 rfl) ?_
    obtain ⟨z4, qz4⟩ : ∃ t : Bool, t = m_X5_requestMeetsAnother z1 := ⟨_, rfl⟩
    have hm : (if (eb_b z4) = 0 then (fun (z6 : Bool) => (if (eb_b z6) = 0 then ((-4), z1) else (fun (z8 : Int32) => (if z8 = (-1) then ((-3), z1) else (fun (z11 : Int64) => (fun (z12 : Int64) => (fun (z13 : eb_St) => (fun (x14 : Int32) => (fun (z15 : eb_St) => (fun (z16 : eb_St) => (fun (z17 : eb_St) => (z8.toInt64, z17)) (m_X5_arrange (eb_pI z16 10 10 ((z16.1 10 10) + 1)))) (m_X4_zero z15 ((z15.1 (13 + z8.toNatClampNeg) 2) + x14) ((z15.1 (13 + z8.toNatClampNeg) 2) + (z15.1 (13 + z8.toNatClampNeg) 3)))) (m_X4_copy z13 ((z13.2 11 2).toInt32) (z13.1 (13 + z8.toNatClampNeg) 2) x14)) ((z13.2 11 3).toInt32)) (m_X2_begin z1 z8.toNatClampNeg z11 z12)) (m_X5_keyOf z1 z11)) (m_X5_measureOfRequest z1))) (m_X5_freePlace z1))) (m_X5_hostMayGiveWhatIsRequested z1) else ((-2), z1)) = mm := by rw [qz4]; exact hm
    have hc : eb_M l yX5_requestMeetsAnother (Cond.code yX5_requestMeetsAnother cX5_requestMeetsAnother 1 (some .boolean) :: wsL_law) 2 53 D 33 cy cL ad z1 [.ref (ad 10)] (some (.int (eb_b z4))) z1 := by rw [qz4]; exact c_X5_requestMeetsAnother l D cy ad z1 
    refine eb_callV (n := 0) (as := []) (rest := []) X hw hl.1 10 hc (by decide) ⟨rfl, rfl, rfl⟩ (eb_goodV wi_25_10 wi_25_11 wi_25_12 wi_2_15 wi_25_13) rfl (by decide +kernel) ⟨by decide, by decide⟩ rfl rfl (Nat.le_of_ble_eq_true rfl) dX5_create_26 ⟨by decide, by decide⟩ (st' := [.int (eb_b z4)]) rfl (fun H locs hw => ?_)
    refine lv_if_eq (tgt := 36) hx hb dX5_create_29 (by decide) (fun h5 => ?_) (fun h5 => ?_)
    · have hm := (if_pos h5).symm.trans hm
      refine lv_aload_n hx hb dX5_create_36 rfl (lv_at hl 0 rfl) ?_
      obtain ⟨z6, qz6⟩ : ∃ t : Bool, t = m_X5_hostMayGiveWhatIsRequested z1 := ⟨_, rfl⟩
      have hm : (if (eb_b z6) = 0 then ((-4), z1) else (fun (z8 : Int32) => (if z8 = (-1) then ((-3), z1) else (fun (z11 : Int64) => (fun (z12 : Int64) => (fun (z13 : eb_St) => (fun (x14 : Int32) => (fun (z15 : eb_St) => (fun (z16 : eb_St) => (fun (z17 : eb_St) => (z8.toInt64, z17)) (m_X5_arrange (eb_pI z16 10 10 ((z16.1 10 10) + 1)))) (m_X4_zero z15 ((z15.1 (13 + z8.toNatClampNeg) 2) + x14) ((z15.1 (13 + z8.toNatClampNeg) 2) + (z15.1 (13 + z8.toNatClampNeg) 3)))) (m_X4_copy z13 ((z13.2 11 2).toInt32) (z13.1 (13 + z8.toNatClampNeg) 2) x14)) ((z13.2 11 3).toInt32)) (m_X2_begin z1 z8.toNatClampNeg z11 z12)) (m_X5_keyOf z1 z11)) (m_X5_measureOfRequest z1))) (m_X5_freePlace z1)) = mm := by rw [qz6]; exact hm
      have hc : eb_M l yX5_hostMayGiveWhatIsRequested (Cond.code yX5_hostMayGiveWhatIsRequested cX5_hostMayGiveWhatIsRequested 2 (some .boolean) :: wsL_law) 2 51 D 33 cy cL ad z1 [.ref (ad 10)] (some (.int (eb_b z6))) z1 := by rw [qz6]; exact c_X5_hostMayGiveWhatIsRequested l D cy ad z1 
      refine eb_callV (n := 0) (as := []) (rest := []) X hw hl.1 10 hc (by decide) ⟨rfl, rfl, rfl⟩ (eb_goodV wi_25_23 wi_26_0 wi_26_1 wi_2_15 wi_26_2) rfl (by decide +kernel) ⟨by decide, by decide⟩ rfl rfl (Nat.le_of_ble_eq_true rfl) dX5_create_37 ⟨by decide, by decide⟩ (st' := [.int (eb_b z6)]) rfl (fun H locs hw => ?_)
      refine lv_if_ne (tgt := 47) hx hb dX5_create_40 (by decide) (fun h7 => ?_) (fun h7 => ?_)
      · have hm := (if_neg h7).symm.trans hm
        refine lv_aload_n hx hb dX5_create_47 rfl (lv_at hl 0 rfl) ?_
        obtain ⟨z8, qz8⟩ : ∃ t : Int32, t = m_X5_freePlace z1 := ⟨_, rfl⟩
        have hm : (if z8 = (-1) then ((-3), z1) else (fun (z11 : Int64) => (fun (z12 : Int64) => (fun (z13 : eb_St) => (fun (x14 : Int32) => (fun (z15 : eb_St) => (fun (z16 : eb_St) => (fun (z17 : eb_St) => (z8.toInt64, z17)) (m_X5_arrange (eb_pI z16 10 10 ((z16.1 10 10) + 1)))) (m_X4_zero z15 ((z15.1 (13 + z8.toNatClampNeg) 2) + x14) ((z15.1 (13 + z8.toNatClampNeg) 2) + (z15.1 (13 + z8.toNatClampNeg) 3)))) (m_X4_copy z13 ((z13.2 11 2).toInt32) (z13.1 (13 + z8.toNatClampNeg) 2) x14)) ((z13.2 11 3).toInt32)) (m_X2_begin z1 z8.toNatClampNeg z11 z12)) (m_X5_keyOf z1 z11)) (m_X5_measureOfRequest z1)) = mm := by rw [qz8]; exact hm
        have hc : eb_M l yX5_freePlace (Cond.code yX5_freePlace cX5_freePlace 2 (some .int) :: wsL_law) 0 0 D 33 cy cL ad z1 [.ref (ad 10)] (some (.int z8)) z1 := by rw [qz8]; exact c_X5_freePlace l D cy ad z1 
        refine eb_callV (n := 0) (as := []) (rest := []) X hw hl.1 10 hc (by decide) ⟨rfl, rfl, rfl⟩ (eb_goodV wi_26_11 wi_26_12 wi_26_13 wi_2_15 wi_26_14) rfl (by decide +kernel) ⟨by decide, by decide⟩ rfl rfl (Nat.le_of_ble_eq_true rfl) dX5_create_48 ⟨by decide, by decide⟩ (st' := [.int z8]) rfl (fun H locs hw => ?_)
        refine lv_istore_n (lv' := [(1, .int z8), (0, .ref (ad 10))]) hx hb dX5_create_51 rfl hl (by decide) rfl (fun ls hl => ?_)
        refine lv_iload_n hx hb dX5_create_52 rfl (lv_at hl 0 rfl) ?_
        refine lv_iconst (v := (-1)) hx hb dX5_create_53 (by decide) ?_
        refine lv_icmp_ne (tgt := 61) hx hb dX5_create_54 (by decide) (fun h9 => ?_) (fun h9 => ?_)
        · have hm := (if_neg h9).symm.trans hm
          refine lv_aload_n hx hb dX5_create_61 rfl (lv_at hl 1 rfl) ?_
          refine eb_get (T := TX5) X hw 10 5 (by decide) ⟨rfl, rfl, rfl⟩ (by decide) (fun _ h => List.mem_cons_of_mem _ (inlX5 _ h)) (List.mem_cons_of_mem _ wi_4_10) (v := .ref (ad 12)) rfl dX5_create_62 ?_
          refine lv_iload_n hx hb dX5_create_65 rfl (lv_at hl 0 rfl) ?_
          have b10 : z8.toNatClampNeg < 6 := Nat.not_le.mp (fun q => (show vp_in z8 6 from (eb_or_in (by rw [qz8]; exact l_X5_freePlace _) h9)) (Or.inr q))
          refine eb_aald (n := 6) X hw 12 (by decide) rfl rfl (eb_or_in (by rw [qz8]; exact l_X5_freePlace _) h9) (a := 13 + z8.toNatClampNeg) rfl dX5_create_66 ?_
          refine lv_astore_n (lv' := [(2, .ref (ad (13 + z8.toNatClampNeg))), (1, .int z8), (0, .ref (ad 10))]) hx hb dX5_create_67 rfl hl (by decide) rfl (fun ls hl => ?_)
          refine lv_aload_n hx hb dX5_create_68 rfl (lv_at hl 2 rfl) ?_
          obtain ⟨z11, qz11⟩ : ∃ t : Int64, t = m_X5_measureOfRequest z1 := ⟨_, rfl⟩
          have hm : (fun (z12 : Int64) => (fun (z13 : eb_St) => (fun (x14 : Int32) => (fun (z15 : eb_St) => (fun (z16 : eb_St) => (fun (z17 : eb_St) => (z8.toInt64, z17)) (m_X5_arrange (eb_pI z16 10 10 ((z16.1 10 10) + 1)))) (m_X4_zero z15 ((z15.1 (13 + z8.toNatClampNeg) 2) + x14) ((z15.1 (13 + z8.toNatClampNeg) 2) + (z15.1 (13 + z8.toNatClampNeg) 3)))) (m_X4_copy z13 ((z13.2 11 2).toInt32) (z13.1 (13 + z8.toNatClampNeg) 2) x14)) ((z13.2 11 3).toInt32)) (m_X2_begin z1 z8.toNatClampNeg z11 z12)) (m_X5_keyOf z1 z11) = mm := by rw [qz11]; exact hm
          have hc : eb_M l yX5_measureOfRequest (Cond.code yX5_measureOfRequest cX5_measureOfRequest 6 (some .long) :: wsL_law) 2 49 D 33 cy cL ad z1 [.ref (ad 10)] (some (.long z11)) z1 := by rw [qz11]; exact c_X5_measureOfRequest l D cy ad z1 
          refine eb_callV (n := 0) (as := []) (rest := []) X hw hl.1 10 hc (by decide) ⟨rfl, rfl, rfl⟩ (eb_goodV wi_26_15 wi_26_16 wi_26_17 wi_2_15 wi_26_18) rfl (by decide +kernel) ⟨by decide, by decide⟩ rfl rfl (Nat.le_of_ble_eq_true rfl) dX5_create_69 ⟨by decide, by decide⟩ (st' := [.long z11]) rfl (fun H locs hw => ?_)
          refine lv_lstore_n (lv' := [(3, .long z11), (2, .ref (ad (13 + z8.toNatClampNeg))), (1, .int z8), (0, .ref (ad 10))]) hx hb dX5_create_72 rfl hl (by decide) rfl (fun ls hl => ?_)
          refine lv_aload_n hx hb dX5_create_73 rfl (lv_at hl 1 rfl) ?_
          refine lv_aload_n hx hb dX5_create_74 rfl (lv_at hl 3 rfl) ?_
          refine eb_get (T := TX5) X hw 10 4 (by decide) ⟨rfl, rfl, rfl⟩ (by decide) (fun _ h => List.mem_cons_of_mem _ (inlX5 _ h)) (List.mem_cons_of_mem _ wi_4_8) (v := .ref (ad 11)) rfl dX5_create_75 ?_
          refine lv_lload_n hx hb dX5_create_78 rfl (lv_at hl 0 rfl) ?_
          refine lv_aload_n hx hb dX5_create_79 rfl (lv_at hl 3 rfl) ?_
          refine lv_lload_n hx hb dX5_create_80 rfl (lv_at hl 0 rfl) ?_
          obtain ⟨z12, qz12⟩ : ∃ t : Int64, t = m_X5_keyOf z1 z11 := ⟨_, rfl⟩
          have hm : (fun (z13 : eb_St) => (fun (x14 : Int32) => (fun (z15 : eb_St) => (fun (z16 : eb_St) => (fun (z17 : eb_St) => (z8.toInt64, z17)) (m_X5_arrange (eb_pI z16 10 10 ((z16.1 10 10) + 1)))) (m_X4_zero z15 ((z15.1 (13 + z8.toNatClampNeg) 2) + x14) ((z15.1 (13 + z8.toNatClampNeg) 2) + (z15.1 (13 + z8.toNatClampNeg) 3)))) (m_X4_copy z13 ((z13.2 11 2).toInt32) (z13.1 (13 + z8.toNatClampNeg) 2) x14)) ((z13.2 11 3).toInt32)) (m_X2_begin z1 z8.toNatClampNeg z11 z12) = mm := by rw [qz12]; exact hm
          have hc : eb_M l yX5_keyOf (Cond.code yX5_keyOf cX5_keyOf 5 (some .long) :: wsL_law) 0 0 D 33 cy cL ad z1 [.ref (ad 10), .long z11] (some (.long z12)) z1 := by rw [qz12]; exact c_X5_keyOf l D cy ad z1 z11
          refine eb_callV (n := 1) (as := [.long z11]) (rest := [.long z11, .ref (ad 11), .ref (ad (13 + z8.toNatClampNeg))]) X hw hl.1 10 hc (by decide) ⟨rfl, rfl, rfl⟩ (eb_goodV wi_27_6 wi_27_7 wi_27_8 wi_2_15 wi_27_9) rfl (by decide +kernel) ⟨by decide, by decide⟩ rfl rfl (Nat.le_of_ble_eq_true rfl) dX5_create_81 ⟨by decide, by decide⟩ (st' := [.long z12, .long z11, .ref (ad 11), .ref (ad (13 + z8.toNatClampNeg))]) rfl (fun H locs hw => ?_)
          obtain ⟨z13, qz13⟩ : ∃ t : eb_St, t = m_X2_begin z1 z8.toNatClampNeg z11 z12 := ⟨_, rfl⟩
          have hm : (fun (x14 : Int32) => (fun (z15 : eb_St) => (fun (z16 : eb_St) => (fun (z17 : eb_St) => (z8.toInt64, z17)) (m_X5_arrange (eb_pI z16 10 10 ((z16.1 10 10) + 1)))) (m_X4_zero z15 ((z15.1 (13 + z8.toNatClampNeg) 2) + x14) ((z15.1 (13 + z8.toNatClampNeg) 2) + (z15.1 (13 + z8.toNatClampNeg) 3)))) (m_X4_copy z13 ((z13.2 11 2).toInt32) (z13.1 (13 + z8.toNatClampNeg) 2) x14)) ((z13.2 11 3).toInt32) = mm := by rw [qz13]; exact hm
          have hc : eb_M l yX2_begin (Cond.code yX2_begin cX2_begin 6 none :: wsL_law) 2 46 D 33 cy cL ad z1 [.ref (ad (13 + z8.toNatClampNeg)), .ref (ad 11), .long z11, .long z12] (none) z13 := by rw [qz13]; exact c_X2_begin l D cy ad z1 z8.toNatClampNeg z11 z12 (by omega)
          refine eb_callV (n := 3) (as := [.ref (ad 11), .long z11, .long z12]) (rest := []) X hw hl.1 (13 + z8.toNatClampNeg) hc (by omega) (cE_i (by omega)) (eb_goodV wi_27_12 wi_27_13 wi_27_14 wi_4_17 wi_27_15) rfl (by decide +kernel) ⟨by decide, by decide⟩ rfl rfl (Nat.le_of_ble_eq_true rfl) dX5_create_84 ⟨by decide, by decide⟩ (st' := []) rfl (fun H locs hw => ?_)
          refine lv_aload_n hx hb dX5_create_87 rfl (lv_at hl 3 rfl) ?_
          refine eb_get (T := TX5) X hw 10 4 (by decide) ⟨rfl, rfl, rfl⟩ (by decide) (fun _ h => List.mem_cons_of_mem _ (inlX5 _ h)) (List.mem_cons_of_mem _ wi_4_8) (v := .ref (ad 11)) rfl dX5_create_88 ?_
          refine eb_get (T := TX8) X hw 11 3 (by decide) ⟨rfl, rfl, rfl⟩ (by decide) (fun _ h => List.mem_cons_of_mem _ (inlX8 _ h)) (List.mem_cons_of_mem _ wi_24_3) (v := .long (z13.2 11 3)) rfl dX5_create_91 ?_
          refine lv_l2i (v := (z13.2 11 3).toInt32) hx hb dX5_create_94 rfl ?_
          refine lv_topi (fun x14 ex14 => ?_)
          have hm : (fun (z15 : eb_St) => (fun (z16 : eb_St) => (fun (z17 : eb_St) => (z8.toInt64, z17)) (m_X5_arrange (eb_pI z16 10 10 ((z16.1 10 10) + 1)))) (m_X4_zero z15 ((z15.1 (13 + z8.toNatClampNeg) 2) + x14) ((z15.1 (13 + z8.toNatClampNeg) 2) + (z15.1 (13 + z8.toNatClampNeg) 3)))) (m_X4_copy z13 ((z13.2 11 2).toInt32) (z13.1 (13 + z8.toNatClampNeg) 2) x14) = mm := by rw [ex14]; exact hm
          refine lv_istore (lv' := [(5, .int x14), (3, .long z11), (2, .ref (ad (13 + z8.toNatClampNeg))), (1, .int z8), (0, .ref (ad 10))]) hx hb dX5_create_95 hl (by decide) rfl (fun ls hl => ?_)
          refine lv_aload_n hx hb dX5_create_97 rfl (lv_at hl 4 rfl) ?_
          refine eb_get (T := TX5) X hw 10 1 (by decide) ⟨rfl, rfl, rfl⟩ (by decide) (fun _ h => List.mem_cons_of_mem _ (inlX5 _ h)) (List.mem_cons_of_mem _ wi_4_13) (v := .ref (ad 1)) rfl dX5_create_98 ?_
          refine lv_aload_n hx hb dX5_create_101 rfl (lv_at hl 4 rfl) ?_
          refine eb_get (T := TX5) X hw 10 4 (by decide) ⟨rfl, rfl, rfl⟩ (by decide) (fun _ h => List.mem_cons_of_mem _ (inlX5 _ h)) (List.mem_cons_of_mem _ wi_4_8) (v := .ref (ad 11)) rfl dX5_create_102 ?_
          refine eb_get (T := TX8) X hw 11 2 (by decide) ⟨rfl, rfl, rfl⟩ (by decide) (fun _ h => List.mem_cons_of_mem _ (inlX8 _ h)) (List.mem_cons_of_mem _ wi_24_4) (v := .long (z13.2 11 2)) rfl dX5_create_105 ?_
          refine lv_l2i (v := (z13.2 11 2).toInt32) hx hb dX5_create_108 rfl ?_
          refine lv_aload_n hx hb dX5_create_109 rfl (lv_at hl 2 rfl) ?_
          refine eb_get (T := TX2) X hw (13 + z8.toNatClampNeg) 2 (by omega) (cE_i (by omega)) (by decide) (fun _ h => List.mem_cons_of_mem _ (inlX2 _ h)) (List.mem_cons_of_mem _ wi_7_1) (v := .int (z13.1 (13 + z8.toNatClampNeg) 2)) (eb_sI (cE_t (by omega) 2)) dX5_create_110 ?_
          refine lv_iload hx hb dX5_create_113 (lv_at hl 0 rfl) ?_
          obtain ⟨z15, qz15⟩ : ∃ t : eb_St, t = m_X4_copy z13 ((z13.2 11 2).toInt32) (z13.1 (13 + z8.toNatClampNeg) 2) x14 := ⟨_, rfl⟩
          have hm : (fun (z16 : eb_St) => (fun (z17 : eb_St) => (z8.toInt64, z17)) (m_X5_arrange (eb_pI z16 10 10 ((z16.1 10 10) + 1)))) (m_X4_zero z15 ((z15.1 (13 + z8.toNatClampNeg) 2) + x14) ((z15.1 (13 + z8.toNatClampNeg) 2) + (z15.1 (13 + z8.toNatClampNeg) 3))) = mm := by rw [qz15]; exact hm
          have hc : eb_M l yX4_copy (Cond.code yX4_copy cX4_copy 5 none :: wsL_law) 2 47 D 33 cy cL ad z13 [.ref (ad 1), .int ((z13.2 11 2).toInt32), .int (z13.1 (13 + z8.toNatClampNeg) 2), .int x14] (none) z15 := by rw [qz15]; exact c_X4_copy l D cy ad z13 ((z13.2 11 2).toInt32) (z13.1 (13 + z8.toNatClampNeg) 2) x14
          refine eb_callV (n := 3) (as := [.int ((z13.2 11 2).toInt32), .int (z13.1 (13 + z8.toNatClampNeg) 2), .int x14]) (rest := []) X hw hl.1 1 hc (by decide) ⟨rfl, rfl, rfl⟩ (eb_goodV wi_28_8 wi_28_9 wi_28_10 wi_1_19 wi_28_11) rfl (by decide +kernel) ⟨by decide, by decide⟩ rfl rfl (Nat.le_of_ble_eq_true rfl) dX5_create_115 ⟨by decide, by decide⟩ (st' := []) rfl (fun H locs hw => ?_)
          refine lv_aload_n hx hb dX5_create_118 rfl (lv_at hl 4 rfl) ?_
          refine eb_get (T := TX5) X hw 10 1 (by decide) ⟨rfl, rfl, rfl⟩ (by decide) (fun _ h => List.mem_cons_of_mem _ (inlX5 _ h)) (List.mem_cons_of_mem _ wi_4_13) (v := .ref (ad 1)) rfl dX5_create_119 ?_
          refine lv_aload_n hx hb dX5_create_122 rfl (lv_at hl 2 rfl) ?_
          refine eb_get (T := TX2) X hw (13 + z8.toNatClampNeg) 2 (by omega) (cE_i (by omega)) (by decide) (fun _ h => List.mem_cons_of_mem _ (inlX2 _ h)) (List.mem_cons_of_mem _ wi_7_1) (v := .int (z15.1 (13 + z8.toNatClampNeg) 2)) (eb_sI (cE_t (by omega) 2)) dX5_create_123 ?_
          refine lv_iload hx hb dX5_create_126 (lv_at hl 0 rfl) ?_
          refine lv_iadd hx hb dX5_create_128 ?_
          refine lv_aload_n hx hb dX5_create_129 rfl (lv_at hl 2 rfl) ?_
          refine eb_get (T := TX2) X hw (13 + z8.toNatClampNeg) 2 (by omega) (cE_i (by omega)) (by decide) (fun _ h => List.mem_cons_of_mem _ (inlX2 _ h)) (List.mem_cons_of_mem _ wi_7_1) (v := .int (z15.1 (13 + z8.toNatClampNeg) 2)) (eb_sI (cE_t (by omega) 2)) dX5_create_130 ?_
          refine lv_aload_n hx hb dX5_create_133 rfl (lv_at hl 2 rfl) ?_
          refine eb_get (T := TX2) X hw (13 + z8.toNatClampNeg) 3 (by omega) (cE_i (by omega)) (by decide) (fun _ h => List.mem_cons_of_mem _ (inlX2 _ h)) (List.mem_cons_of_mem _ wi_7_2) (v := .int (z15.1 (13 + z8.toNatClampNeg) 3)) (eb_sI (cE_t (by omega) 3)) dX5_create_134 ?_
          refine lv_iadd hx hb dX5_create_137 ?_
          obtain ⟨z16, qz16⟩ : ∃ t : eb_St, t = m_X4_zero z15 ((z15.1 (13 + z8.toNatClampNeg) 2) + x14) ((z15.1 (13 + z8.toNatClampNeg) 2) + (z15.1 (13 + z8.toNatClampNeg) 3)) := ⟨_, rfl⟩
          have hm : (fun (z17 : eb_St) => (z8.toInt64, z17)) (m_X5_arrange (eb_pI z16 10 10 ((z16.1 10 10) + 1))) = mm := by rw [qz16]; exact hm
          have hc : eb_M l yX4_zero (Cond.code yX4_zero cX4_zero 4 none :: wsL_law) 2 47 D 33 cy cL ad z15 [.ref (ad 1), .int ((z15.1 (13 + z8.toNatClampNeg) 2) + x14), .int ((z15.1 (13 + z8.toNatClampNeg) 2) + (z15.1 (13 + z8.toNatClampNeg) 3))] (none) z16 := by rw [qz16]; exact c_X4_zero l D cy ad z15 ((z15.1 (13 + z8.toNatClampNeg) 2) + x14) ((z15.1 (13 + z8.toNatClampNeg) 2) + (z15.1 (13 + z8.toNatClampNeg) 3))
          refine eb_callV (n := 2) (as := [.int ((z15.1 (13 + z8.toNatClampNeg) 2) + x14), .int ((z15.1 (13 + z8.toNatClampNeg) 2) + (z15.1 (13 + z8.toNatClampNeg) 3))]) (rest := []) X hw hl.1 1 hc (by decide) ⟨rfl, rfl, rfl⟩ (eb_goodV wi_7_3 wi_7_4 wi_7_5 wi_1_19 wi_7_6) rfl (by decide +kernel) ⟨by decide, by decide⟩ rfl rfl (Nat.le_of_ble_eq_true rfl) dX5_create_138 ⟨by decide, by decide⟩ (st' := []) rfl (fun H locs hw => ?_)
          refine lv_aload_n hx hb dX5_create_141 rfl (lv_at hl 4 rfl) ?_
          refine lv_dup hx hb dX5_create_142 rfl ?_
          refine eb_get (T := TX5) X hw 10 10 (by decide) ⟨rfl, rfl, rfl⟩ (by decide) (fun _ h => List.mem_cons_of_mem _ (inlX5 _ h)) (List.mem_cons_of_mem _ wi_6_16) (v := .int (z16.1 10 10)) rfl dX5_create_143 ?_
          refine lv_iconst (v := 1) hx hb dX5_create_146 (by decide) ?_
          refine lv_iadd hx hb dX5_create_147 ?_
          refine eb_putI (T := TX5) X hw 10 10 (by decide) ⟨rfl, rfl, rfl⟩ (by decide) rfl (fun _ h => List.mem_cons_of_mem _ (inlX5 _ h)) (List.mem_cons_of_mem _ wi_6_16) tyX5 tyX5_ok nmX5 rfl rfl rfl dX5_create_148 (fun H locs hw => ?_)
          refine lv_aload_n hx hb dX5_create_151 rfl (lv_at hl 4 rfl) ?_
          obtain ⟨z17, qz17⟩ : ∃ t : eb_St, t = m_X5_arrange (eb_pI z16 10 10 ((z16.1 10 10) + 1)) := ⟨_, rfl⟩
          have hm : (z8.toInt64, z17) = mm := by rw [qz17]; exact hm
          have hc : eb_M l yX5_arrange (Cond.code yX5_arrange cX5_arrange 4 none :: wsL_law) 2 53 D 33 cy cL ad (eb_pI z16 10 10 ((z16.1 10 10) + 1)) [.ref (ad 10)] (none) z17 := by rw [qz17]; exact c_X5_arrange l D cy ad (eb_pI z16 10 10 ((z16.1 10 10) + 1)) 
          refine eb_callV (n := 0) (as := []) (rest := []) X hw hl.1 10 hc (by decide) ⟨rfl, rfl, rfl⟩ (eb_goodV wi_13_9 wi_13_10 wi_13_11 wi_2_15 wi_13_12) rfl (by decide +kernel) ⟨by decide, by decide⟩ rfl rfl (Nat.le_of_ble_eq_true rfl) dX5_create_152 ⟨by decide, by decide⟩ (st' := []) rfl (fun H locs hw => ?_)
          refine lv_iload_n hx hb dX5_create_155 rfl (lv_at hl 3 rfl) ?_
          refine lv_i2l (v := z8.toInt64) hx hb dX5_create_156 rfl ?_
          subst hm
          exact eb_lret X hw rfl rfl rfl dX5_create_157
        · have hm := (if_pos h9).symm.trans hm
          refine lv_ldc2 hx hb hown (hts _ (List.mem_cons_of_mem _ wi_24_2)) dX5_create_57 ?_
          subst hm
          exact eb_lret X hw rfl rfl rfl dX5_create_60
      · have hm := (if_pos h7).symm.trans hm
        refine lv_ldc2 hx hb hown (hts _ (List.mem_cons_of_mem _ wi_24_1)) dX5_create_43 ?_
        subst hm
        exact eb_lret X hw rfl rfl rfl dX5_create_46
    · have hm := (if_neg h5).symm.trans hm
      refine lv_ldc2 hx hb hown (hts _ (List.mem_cons_of_mem _ wi_24_0)) dX5_create_32 ?_
      subst hm
      exact eb_lret X hw rfl rfl rfl dX5_create_35
  · have hm := (if_pos h3).symm.trans hm
    refine lv_ldc2 hx hb hown (hts _ (List.mem_cons_of_mem _ wi_23_14)) dX5_create_21 ?_
    subst hm
    exact eb_lret X hw rfl rfl rfl dX5_create_24

set_option maxHeartbeats 4000000 in
set_option maxRecDepth 100000 in
theorem c_X5_enter (l : Launch) (D : va_G) (cy : Nat → ClassId) (ad : Nat → Nat) (σ : eb_St) (a0 : Int32) (h0_ : vp_in a0 6) : eb_M l yX5_enter (Cond.code yX5_enter cX5_enter 3 none :: wsL_law) 3 76 D 33 cy cL ad σ [.ref (ad 10), .int a0] (none) (m_X5_enter σ a0) := by
  refine eb_start (own := RX5) (by decide) rfl rfl (Nat.le_of_ble_eq_true rfl) ?_
  intro p e s m args below meth c A ls X hw hl
  have hl : lv_has ls 3 [(0, .ref (ad 10)), (1, .int a0)] := hl
  have hx := X.1.1
  have hb := X.1.2.1
  have hown := X.1.2.2.2.1
  have hts := X.1.2.2.2.2
  generalize hm : m_X5_enter σ a0 = mm
  have hm : (if (σ.1 (13 + a0.toNatClampNeg) 1) = 3 then (fun (z7 : eb_St) => z7) (m_X7_set σ 6 10 (-5)) else (fun (x3 : Int32) => (fun (x4 : Int32) => (fun (z5 : Int64) => (fun (z6 : eb_St) => z6) (m_X5_arrange (eb_pJ (eb_pJ (eb_pI (eb_pI (eb_pI (eb_pI σ (13 + a0.toNatClampNeg) 1 4) (13 + a0.toNatClampNeg) 7 x3) 10 11 x4) 10 6 a0) 10 7 z5) 10 8 0))) (m_X7_get (eb_pI (eb_pI (eb_pI (eb_pI σ (13 + a0.toNatClampNeg) 1 4) (13 + a0.toNatClampNeg) 7 x3) 10 11 x4) 10 6 a0) 6 11)) (((eb_pI (eb_pI σ (13 + a0.toNatClampNeg) 1 4) (13 + a0.toNatClampNeg) 7 x3).1 10 11) + 1)) (((eb_pI σ (13 + a0.toNatClampNeg) 1 4).1 (13 + a0.toNatClampNeg) 7) + 1)) = mm := hm
  refine lv_aload_n hx hb dX5_enter_0 rfl (lv_at hl 0 rfl) ?_
  refine eb_get (T := TX5) X hw 10 5 (by decide) ⟨rfl, rfl, rfl⟩ (by decide) (fun _ h => List.mem_cons_of_mem _ (inlX5 _ h)) (List.mem_cons_of_mem _ wi_4_10) (v := .ref (ad 12)) rfl dX5_enter_1 ?_
  refine lv_iload_n hx hb dX5_enter_4 rfl (lv_at hl 1 rfl) ?_
  have b1 : a0.toNatClampNeg < 6 := Nat.not_le.mp (fun q => (show vp_in a0 6 from h0_) (Or.inr q))
  refine eb_aald (n := 6) X hw 12 (by decide) rfl rfl h0_ (a := 13 + a0.toNatClampNeg) rfl dX5_enter_5 ?_
  refine lv_astore_n (lv' := [(2, .ref (ad (13 + a0.toNatClampNeg))), (0, .ref (ad 10)), (1, .int a0)]) hx hb dX5_enter_6 rfl hl (by decide) rfl (fun ls hl => ?_)
  refine lv_aload_n hx hb dX5_enter_7 rfl (lv_at hl 0 rfl) ?_
  refine eb_get (T := TX2) X hw (13 + a0.toNatClampNeg) 1 (by omega) (cE_i (by omega)) (by decide) (fun _ h => List.mem_cons_of_mem _ (inlX2 _ h)) (List.mem_cons_of_mem _ wi_7_0) (v := .int (σ.1 (13 + a0.toNatClampNeg) 1)) (eb_sI (cE_t (by omega) 1)) dX5_enter_8 ?_
  refine lv_iconst (v := 3) hx hb dX5_enter_11 (by decide) ?_
  refine lv_icmp_ne (tgt := 28) hx hb dX5_enter_12 (by decide) (fun h2 => ?_) (fun h2 => ?_)
  · have hm := (if_neg h2).symm.trans hm
    refine lv_aload_n hx hb dX5_enter_28 rfl (lv_at hl 0 rfl) ?_
    refine lv_iconst (v := 4) hx hb dX5_enter_29 (by decide) ?_
    refine eb_putI (T := TX2) X hw (13 + a0.toNatClampNeg) 1 (by omega) (cE_i (by omega)) (by decide) (cE_t (by omega) 1) (fun _ h => List.mem_cons_of_mem _ (inlX2 _ h)) (List.mem_cons_of_mem _ wi_7_0) tyX2 tyX2_ok nmX2 rfl rfl rfl dX5_enter_30 (fun H locs hw => ?_)
    refine lv_aload_n hx hb dX5_enter_33 rfl (lv_at hl 0 rfl) ?_
    refine lv_dup hx hb dX5_enter_34 rfl ?_
    refine eb_get (T := TX2) X hw (13 + a0.toNatClampNeg) 7 (by omega) (cE_i (by omega)) (by decide) (fun _ h => List.mem_cons_of_mem _ (inlX2 _ h)) (List.mem_cons_of_mem _ wi_28_18) (v := .int ((eb_pI σ (13 + a0.toNatClampNeg) 1 4).1 (13 + a0.toNatClampNeg) 7)) (eb_sI (cE_t (by omega) 7)) dX5_enter_35 ?_
    refine lv_iconst (v := 1) hx hb dX5_enter_38 (by decide) ?_
    refine lv_iadd hx hb dX5_enter_39 ?_
    refine lv_topi (fun x3 ex3 => ?_)
    have hm : (fun (x4 : Int32) => (fun (z5 : Int64) => (fun (z6 : eb_St) => z6) (m_X5_arrange (eb_pJ (eb_pJ (eb_pI (eb_pI (eb_pI (eb_pI σ (13 + a0.toNatClampNeg) 1 4) (13 + a0.toNatClampNeg) 7 x3) 10 11 x4) 10 6 a0) 10 7 z5) 10 8 0))) (m_X7_get (eb_pI (eb_pI (eb_pI (eb_pI σ (13 + a0.toNatClampNeg) 1 4) (13 + a0.toNatClampNeg) 7 x3) 10 11 x4) 10 6 a0) 6 11)) (((eb_pI (eb_pI σ (13 + a0.toNatClampNeg) 1 4) (13 + a0.toNatClampNeg) 7 x3).1 10 11) + 1) = mm := by rw [ex3]; exact hm
    refine eb_putI (T := TX2) X hw (13 + a0.toNatClampNeg) 7 (by omega) (cE_i (by omega)) (by decide) (cE_t (by omega) 7) (fun _ h => List.mem_cons_of_mem _ (inlX2 _ h)) (List.mem_cons_of_mem _ wi_28_18) tyX2 tyX2_ok nmX2 rfl rfl rfl dX5_enter_40 (fun H locs hw => ?_)
    refine lv_aload_n hx hb dX5_enter_43 rfl (lv_at hl 1 rfl) ?_
    refine lv_dup hx hb dX5_enter_44 rfl ?_
    refine eb_get (T := TX5) X hw 10 11 (by decide) ⟨rfl, rfl, rfl⟩ (by decide) (fun _ h => List.mem_cons_of_mem _ (inlX5 _ h)) (List.mem_cons_of_mem _ wi_6_17) (v := .int ((eb_pI (eb_pI σ (13 + a0.toNatClampNeg) 1 4) (13 + a0.toNatClampNeg) 7 x3).1 10 11)) rfl dX5_enter_45 ?_
    refine lv_iconst (v := 1) hx hb dX5_enter_48 (by decide) ?_
    refine lv_iadd hx hb dX5_enter_49 ?_
    refine lv_topi (fun x4 ex4 => ?_)
    have hm : (fun (z5 : Int64) => (fun (z6 : eb_St) => z6) (m_X5_arrange (eb_pJ (eb_pJ (eb_pI (eb_pI (eb_pI (eb_pI σ (13 + a0.toNatClampNeg) 1 4) (13 + a0.toNatClampNeg) 7 x3) 10 11 x4) 10 6 a0) 10 7 z5) 10 8 0))) (m_X7_get (eb_pI (eb_pI (eb_pI (eb_pI σ (13 + a0.toNatClampNeg) 1 4) (13 + a0.toNatClampNeg) 7 x3) 10 11 x4) 10 6 a0) 6 11) = mm := by rw [ex4]; exact hm
    refine eb_putI (T := TX5) X hw 10 11 (by decide) ⟨rfl, rfl, rfl⟩ (by decide) rfl (fun _ h => List.mem_cons_of_mem _ (inlX5 _ h)) (List.mem_cons_of_mem _ wi_6_17) tyX5 tyX5_ok nmX5 rfl rfl rfl dX5_enter_50 (fun H locs hw => ?_)
    refine lv_aload_n hx hb dX5_enter_53 rfl (lv_at hl 1 rfl) ?_
    refine lv_iload_n hx hb dX5_enter_54 rfl (lv_at hl 2 rfl) ?_
    refine eb_putI (T := TX5) X hw 10 6 (by decide) ⟨rfl, rfl, rfl⟩ (by decide) rfl (fun _ h => List.mem_cons_of_mem _ (inlX5 _ h)) (List.mem_cons_of_mem _ wi_4_11) tyX5 tyX5_ok nmX5 rfl rfl rfl dX5_enter_55 (fun H locs hw => ?_)
    refine lv_aload_n hx hb dX5_enter_58 rfl (lv_at hl 1 rfl) ?_
    refine lv_aload_n hx hb dX5_enter_59 rfl (lv_at hl 1 rfl) ?_
    refine eb_get (T := TX5) X hw 10 3 (by decide) ⟨rfl, rfl, rfl⟩ (by decide) (fun _ h => List.mem_cons_of_mem _ (inlX5 _ h)) (List.mem_cons_of_mem _ wi_4_15) (v := .ref (ad 25)) rfl dX5_enter_60 ?_
    refine lv_bipush (v := 11) hx hb dX5_enter_63 (by decide) ?_
    obtain ⟨z5, qz5⟩ : ∃ t : Int64, t = m_X7_get (eb_pI (eb_pI (eb_pI (eb_pI σ (13 + a0.toNatClampNeg) 1 4) (13 + a0.toNatClampNeg) 7 x3) 10 11 x4) 10 6 a0) 6 11 := ⟨_, rfl⟩
    have hm : (fun (z6 : eb_St) => z6) (m_X5_arrange (eb_pJ (eb_pJ (eb_pI (eb_pI (eb_pI (eb_pI σ (13 + a0.toNatClampNeg) 1 4) (13 + a0.toNatClampNeg) 7 x3) 10 11 x4) 10 6 a0) 10 7 z5) 10 8 0)) = mm := by rw [qz5]; exact hm
    have hc : eb_M l yX7_get (Cond.code yX7_get cX7_get 2 (some .long) :: wsL_law) 0 0 D 33 cy cL ad (eb_pI (eb_pI (eb_pI (eb_pI σ (13 + a0.toNatClampNeg) 1 4) (13 + a0.toNatClampNeg) 7 x3) 10 11 x4) 10 6 a0) [.ref (ad 25), .int 11] (some (.long z5)) (eb_pI (eb_pI (eb_pI (eb_pI σ (13 + a0.toNatClampNeg) 1 4) (13 + a0.toNatClampNeg) 7 x3) 10 11 x4) 10 6 a0) := by rw [qz5]; exact c_X7_get l D cy ad (eb_pI (eb_pI (eb_pI (eb_pI σ (13 + a0.toNatClampNeg) 1 4) (13 + a0.toNatClampNeg) 7 x3) 10 11 x4) 10 6 a0) 6 11 (by decide)
    refine eb_callV (n := 1) (as := [.int 11]) (rest := [.ref (ad 10)]) X hw hl.1 25 hc (by decide) ⟨rfl, rfl, rfl⟩ (eb_goodV wi_23_7 wi_16_5 wi_16_6 wi_2_7 wi_16_7) rfl (by decide +kernel) ⟨by decide, by decide⟩ rfl rfl (Nat.le_of_ble_eq_true rfl) dX5_enter_65 ⟨by decide, by decide⟩ (st' := [.long z5, .ref (ad 10)]) rfl (fun H locs hw => ?_)
    refine eb_putJ (T := TX5) X hw 10 7 (by decide) ⟨rfl, rfl, rfl⟩ (by decide) rfl (fun _ h => List.mem_cons_of_mem _ (inlX5 _ h)) (List.mem_cons_of_mem _ wi_23_6) tyX5 tyX5_ok nmX5 rfl rfl rfl dX5_enter_68 (fun H locs hw => ?_)
    refine lv_aload_n hx hb dX5_enter_71 rfl (lv_at hl 1 rfl) ?_
    refine lv_lconst (v := 0) hx hb dX5_enter_72 (by decide) ?_
    refine eb_putJ (T := TX5) X hw 10 8 (by decide) ⟨rfl, rfl, rfl⟩ (by decide) rfl (fun _ h => List.mem_cons_of_mem _ (inlX5 _ h)) (List.mem_cons_of_mem _ wi_23_3) tyX5 tyX5_ok nmX5 rfl rfl rfl dX5_enter_73 (fun H locs hw => ?_)
    refine lv_aload_n hx hb dX5_enter_76 rfl (lv_at hl 1 rfl) ?_
    obtain ⟨z6, qz6⟩ : ∃ t : eb_St, t = m_X5_arrange (eb_pJ (eb_pJ (eb_pI (eb_pI (eb_pI (eb_pI σ (13 + a0.toNatClampNeg) 1 4) (13 + a0.toNatClampNeg) 7 x3) 10 11 x4) 10 6 a0) 10 7 z5) 10 8 0) := ⟨_, rfl⟩
    have hm : z6 = mm := by rw [qz6]; exact hm
    have hc : eb_M l yX5_arrange (Cond.code yX5_arrange cX5_arrange 4 none :: wsL_law) 2 53 D 33 cy cL ad (eb_pJ (eb_pJ (eb_pI (eb_pI (eb_pI (eb_pI σ (13 + a0.toNatClampNeg) 1 4) (13 + a0.toNatClampNeg) 7 x3) 10 11 x4) 10 6 a0) 10 7 z5) 10 8 0) [.ref (ad 10)] (none) z6 := by rw [qz6]; exact c_X5_arrange l D cy ad (eb_pJ (eb_pJ (eb_pI (eb_pI (eb_pI (eb_pI σ (13 + a0.toNatClampNeg) 1 4) (13 + a0.toNatClampNeg) 7 x3) 10 11 x4) 10 6 a0) 10 7 z5) 10 8 0) 
    refine eb_callV (n := 0) (as := []) (rest := []) X hw hl.1 10 hc (by decide) ⟨rfl, rfl, rfl⟩ (eb_goodV wi_13_9 wi_13_10 wi_13_11 wi_2_15 wi_13_12) rfl (by decide +kernel) ⟨by decide, by decide⟩ rfl rfl (Nat.le_of_ble_eq_true rfl) dX5_enter_77 ⟨by decide, by decide⟩ (st' := []) rfl (fun H locs hw => ?_)
    subst hm
    exact eb_vret X hw rfl rfl dX5_enter_80
  · have hm := (if_pos h2).symm.trans hm
    refine lv_aload_n hx hb dX5_enter_15 rfl (lv_at hl 1 rfl) ?_
    refine eb_get (T := TX5) X hw 10 3 (by decide) ⟨rfl, rfl, rfl⟩ (by decide) (fun _ h => List.mem_cons_of_mem _ (inlX5 _ h)) (List.mem_cons_of_mem _ wi_4_15) (v := .ref (ad 25)) rfl dX5_enter_16 ?_
    refine lv_bipush (v := 10) hx hb dX5_enter_19 (by decide) ?_
    refine lv_ldc2 hx hb hown (hts _ (List.mem_cons_of_mem _ wi_28_17)) dX5_enter_21 ?_
    obtain ⟨z7, qz7⟩ : ∃ t : eb_St, t = m_X7_set σ 6 10 (-5) := ⟨_, rfl⟩
    have hm : z7 = mm := by rw [qz7]; exact hm
    have hc : eb_M l yX7_set (Cond.code yX7_set cX7_set 4 none :: wsL_law) 0 0 D 33 cy cL ad σ [.ref (ad 25), .int 10, .long (-5)] (none) z7 := by rw [qz7]; exact c_X7_set l D cy ad σ 6 10 (-5) (by decide)
    refine eb_callV (n := 2) (as := [.int 10, .long (-5)]) (rest := []) X hw hl.1 25 hc (by decide) ⟨rfl, rfl, rfl⟩ (eb_goodV wi_13_5 wi_13_6 wi_13_7 wi_2_7 wi_13_8) rfl (by decide +kernel) ⟨by decide, by decide⟩ rfl rfl (Nat.le_of_ble_eq_true rfl) dX5_enter_24 ⟨by decide, by decide⟩ (st' := []) rfl (fun H locs hw => ?_)
    subst hm
    exact eb_vret X hw rfl rfl dX5_enter_27

set_option maxHeartbeats 4000000 in
set_option maxRecDepth 100000 in
theorem k_X5_answerHost_62 {p : Program} {l : Launch} {e : Env} {s : State} {m : MethodId} {args : Array Value} {below : List Frame} {meth : Method} {c : Code} {A : Nat → Prop} {H : Heap} {locs : List Loc} {ls : Array Slot} {D : va_G} {cy : Nat → ClassId} {ad : Nat → Nat} (X : eb_X p s m args meth c cX5_answerHost 5 RX5 (Cond.code yX5_answerHost cX5_answerHost 5 none :: wsL_law) none D cy A)   (σ : eb_St)   {mm : eb_St} (hm : (m_X5_answerHost_62  σ ) = mm) (hw : eb_H D 33 cy cL ad A s.heap σ H locs) (hl : lv_has ls 5 [(0, .ref (ad 10))]) : W p l e ({ frames := 4, cells := 0, slots := 0, locals := 101 } : Room) s m args below meth c H locs 0 0 (MQ below (eb_Q D 33 cy cL ad A (none) mm) args s 0 0 A) (F0 m 62 ls []) := by
  have hx := X.1.1
  have hb := X.1.2.1
  have hown := X.1.2.2.2.1
  have hts := X.1.2.2.2.2
  have hm : (fun (z23 : eb_St) => z23) (m_X7_set σ 6 10 (-1)) = mm := hm
  refine lv_aload_n hx hb dX5_answerHost_62 rfl (lv_at hl 0 rfl) ?_
  refine eb_get (T := TX5) X hw 10 3 (by decide) ⟨rfl, rfl, rfl⟩ (by decide) (fun _ h => List.mem_cons_of_mem _ (inlX5 _ h)) (List.mem_cons_of_mem _ wi_4_15) (v := .ref (ad 25)) rfl dX5_answerHost_63 ?_
  refine lv_bipush (v := 10) hx hb dX5_answerHost_66 (by decide) ?_
  refine lv_ldc2 hx hb hown (hts _ (List.mem_cons_of_mem _ wi_23_14)) dX5_answerHost_68 ?_
  obtain ⟨z23, qz23⟩ : ∃ t : eb_St, t = m_X7_set σ 6 10 (-1) := ⟨_, rfl⟩
  have hm : z23 = mm := by rw [qz23]; exact hm
  have hc : eb_M l yX7_set (Cond.code yX7_set cX7_set 4 none :: wsL_law) 0 0 D 33 cy cL ad σ [.ref (ad 25), .int 10, .long (-1)] (none) z23 := by rw [qz23]; exact c_X7_set l D cy ad σ 6 10 (-1) (by decide)
  refine eb_callV (n := 2) (as := [.int 10, .long (-1)]) (rest := []) X hw hl.1 25 hc (by decide) ⟨rfl, rfl, rfl⟩ (eb_goodV wi_13_5 wi_13_6 wi_13_7 wi_2_7 wi_13_8) rfl (by decide +kernel) ⟨by decide, by decide⟩ rfl rfl (Nat.le_of_ble_eq_true rfl) dX5_answerHost_71 ⟨by decide, by decide⟩ (st' := []) rfl (fun H locs hw => ?_)
  refine lv_goto (tgt := 192) hx hb dX5_answerHost_74 (by decide) ?_
  subst hm
  exact eb_vret X hw rfl rfl dX5_answerHost_192
set_option maxHeartbeats 4000000 in
set_option maxRecDepth 100000 in
theorem c_X5_answerHost (l : Launch) (D : va_G) (cy : Nat → ClassId) (ad : Nat → Nat) (σ : eb_St)   : eb_M l yX5_answerHost (Cond.code yX5_answerHost cX5_answerHost 5 none :: wsL_law) 4 101 D 33 cy cL ad σ [.ref (ad 10)] (none) (m_X5_answerHost σ) := by
  refine eb_start (own := RX5) (by decide) rfl rfl (Nat.le_of_ble_eq_true rfl) ?_
  intro p e s m args below meth c A ls X hw hl
  have hl : lv_has ls 5 [(0, .ref (ad 10))] := hl
  have hx := X.1.1
  have hb := X.1.2.1
  have hown := X.1.2.2.2.1
  have hts := X.1.2.2.2.2
  generalize hm : m_X5_answerHost σ = mm
  have hm : (fun (z1 : Int64) => (fun (z2 : Int64) => (if z1 = 1 then (fun (z21 : Int64 × eb_St) => (fun (z22 : eb_St) => z22) (m_X7_set z21.2 6 10 z21.1)) (m_X5_create σ) else (fun (z4 : Bool) => (if (eb_b z4) = 0 then m_X5_answerHost_62  σ else (if (σ.1 (13 + z2.toInt32.toNatClampNeg) 1) = 0 then m_X5_answerHost_62  σ else (if z1 = 2 then (fun (z20 : eb_St) => z20) (m_X5_enter σ z2.toInt32) else (if z1 = 3 then (fun (z17 : eb_St) => (fun (z18 : eb_St) => (fun (z19 : eb_St) => z19) (m_X7_set z18 6 10 0)) (m_X5_arrange z17)) (m_X5_remove σ z2.toInt32.toNatClampNeg) else (if z1 = 4 then (fun (z13 : eb_St) => (fun (z15 : eb_St) => z15) (m_X7_set z13 6 11 (z13.2 (13 + z2.toInt32.toNatClampNeg) 9))) (m_X7_set σ 6 10 ((σ.1 (13 + z2.toInt32.toNatClampNeg) 1).toInt64)) else (fun (z11 : eb_St) => z11) (m_X7_set σ 6 10 (-1)))))))) (m_X5_isPlace z2))) (m_X7_get σ 6 10)) (m_X7_get σ 6 17) = mm := hm
  refine lv_aload_n hx hb dX5_answerHost_0 rfl (lv_at hl 0 rfl) ?_
  refine eb_get (T := TX5) X hw 10 3 (by decide) ⟨rfl, rfl, rfl⟩ (by decide) (fun _ h => List.mem_cons_of_mem _ (inlX5 _ h)) (List.mem_cons_of_mem _ wi_4_15) (v := .ref (ad 25)) rfl dX5_answerHost_1 ?_
  refine lv_bipush (v := 17) hx hb dX5_answerHost_4 (by decide) ?_
  obtain ⟨z1, qz1⟩ : ∃ t : Int64, t = m_X7_get σ 6 17 := ⟨_, rfl⟩
  have hm : (fun (z2 : Int64) => (if z1 = 1 then (fun (z21 : Int64 × eb_St) => (fun (z22 : eb_St) => z22) (m_X7_set z21.2 6 10 z21.1)) (m_X5_create σ) else (fun (z4 : Bool) => (if (eb_b z4) = 0 then m_X5_answerHost_62  σ else (if (σ.1 (13 + z2.toInt32.toNatClampNeg) 1) = 0 then m_X5_answerHost_62  σ else (if z1 = 2 then (fun (z20 : eb_St) => z20) (m_X5_enter σ z2.toInt32) else (if z1 = 3 then (fun (z17 : eb_St) => (fun (z18 : eb_St) => (fun (z19 : eb_St) => z19) (m_X7_set z18 6 10 0)) (m_X5_arrange z17)) (m_X5_remove σ z2.toInt32.toNatClampNeg) else (if z1 = 4 then (fun (z13 : eb_St) => (fun (z15 : eb_St) => z15) (m_X7_set z13 6 11 (z13.2 (13 + z2.toInt32.toNatClampNeg) 9))) (m_X7_set σ 6 10 ((σ.1 (13 + z2.toInt32.toNatClampNeg) 1).toInt64)) else (fun (z11 : eb_St) => z11) (m_X7_set σ 6 10 (-1)))))))) (m_X5_isPlace z2))) (m_X7_get σ 6 10) = mm := by rw [qz1]; exact hm
  have hc : eb_M l yX7_get (Cond.code yX7_get cX7_get 2 (some .long) :: wsL_law) 0 0 D 33 cy cL ad σ [.ref (ad 25), .int 17] (some (.long z1)) σ := by rw [qz1]; exact c_X7_get l D cy ad σ 6 17 (by decide)
  refine eb_callV (n := 1) (as := [.int 17]) (rest := []) X hw hl.1 25 hc (by decide) ⟨rfl, rfl, rfl⟩ (eb_goodV wi_23_7 wi_16_5 wi_16_6 wi_2_7 wi_16_7) rfl (by decide +kernel) ⟨by decide, by decide⟩ rfl rfl (Nat.le_of_ble_eq_true rfl) dX5_answerHost_6 ⟨by decide, by decide⟩ (st' := [.long z1]) rfl (fun H locs hw => ?_)
  refine lv_lstore_n (lv' := [(1, .long z1), (0, .ref (ad 10))]) hx hb dX5_answerHost_9 rfl hl (by decide) rfl (fun ls hl => ?_)
  refine lv_aload_n hx hb dX5_answerHost_10 rfl (lv_at hl 1 rfl) ?_
  refine eb_get (T := TX5) X hw 10 3 (by decide) ⟨rfl, rfl, rfl⟩ (by decide) (fun _ h => List.mem_cons_of_mem _ (inlX5 _ h)) (List.mem_cons_of_mem _ wi_4_15) (v := .ref (ad 25)) rfl dX5_answerHost_11 ?_
  refine lv_bipush (v := 10) hx hb dX5_answerHost_14 (by decide) ?_
  obtain ⟨z2, qz2⟩ : ∃ t : Int64, t = m_X7_get σ 6 10 := ⟨_, rfl⟩
  have hm : (if z1 = 1 then (fun (z21 : Int64 × eb_St) => (fun (z22 : eb_St) => z22) (m_X7_set z21.2 6 10 z21.1)) (m_X5_create σ) else (fun (z4 : Bool) => (if (eb_b z4) = 0 then m_X5_answerHost_62  σ else (if (σ.1 (13 + z2.toInt32.toNatClampNeg) 1) = 0 then m_X5_answerHost_62  σ else (if z1 = 2 then (fun (z20 : eb_St) => z20) (m_X5_enter σ z2.toInt32) else (if z1 = 3 then (fun (z17 : eb_St) => (fun (z18 : eb_St) => (fun (z19 : eb_St) => z19) (m_X7_set z18 6 10 0)) (m_X5_arrange z17)) (m_X5_remove σ z2.toInt32.toNatClampNeg) else (if z1 = 4 then (fun (z13 : eb_St) => (fun (z15 : eb_St) => z15) (m_X7_set z13 6 11 (z13.2 (13 + z2.toInt32.toNatClampNeg) 9))) (m_X7_set σ 6 10 ((σ.1 (13 + z2.toInt32.toNatClampNeg) 1).toInt64)) else (fun (z11 : eb_St) => z11) (m_X7_set σ 6 10 (-1)))))))) (m_X5_isPlace z2)) = mm := by rw [qz2]; exact hm
  have hc : eb_M l yX7_get (Cond.code yX7_get cX7_get 2 (some .long) :: wsL_law) 0 0 D 33 cy cL ad σ [.ref (ad 25), .int 10] (some (.long z2)) σ := by rw [qz2]; exact c_X7_get l D cy ad σ 6 10 (by decide)
  refine eb_callV (n := 1) (as := [.int 10]) (rest := []) X hw hl.1 25 hc (by decide) ⟨rfl, rfl, rfl⟩ (eb_goodV wi_23_7 wi_16_5 wi_16_6 wi_2_7 wi_16_7) rfl (by decide +kernel) ⟨by decide, by decide⟩ rfl rfl (Nat.le_of_ble_eq_true rfl) dX5_answerHost_16 ⟨by decide, by decide⟩ (st' := [.long z2]) rfl (fun H locs hw => ?_)
  refine lv_lstore_n (lv' := [(3, .long z2), (1, .long z1), (0, .ref (ad 10))]) hx hb dX5_answerHost_19 rfl hl (by decide) rfl (fun ls hl => ?_)
  refine lv_lload_n hx hb dX5_answerHost_20 rfl (lv_at hl 1 rfl) ?_
  refine lv_lconst (v := 1) hx hb dX5_answerHost_21 (by decide) ?_
  refine eb_lif_ne (tgt := 42) hx hb dX5_answerHost_22 dX5_answerHost_23 (by decide) (fun h3 => ?_) (fun h3 => ?_)
  · have hm := (if_neg h3).symm.trans hm
    refine lv_lload_n hx hb dX5_answerHost_42 rfl (lv_at hl 0 rfl) ?_
    obtain ⟨z4, qz4⟩ : ∃ t : Bool, t = m_X5_isPlace z2 := ⟨_, rfl⟩
    have hm : (if (eb_b z4) = 0 then m_X5_answerHost_62  σ else (if (σ.1 (13 + z2.toInt32.toNatClampNeg) 1) = 0 then m_X5_answerHost_62  σ else (if z1 = 2 then (fun (z20 : eb_St) => z20) (m_X5_enter σ z2.toInt32) else (if z1 = 3 then (fun (z17 : eb_St) => (fun (z18 : eb_St) => (fun (z19 : eb_St) => z19) (m_X7_set z18 6 10 0)) (m_X5_arrange z17)) (m_X5_remove σ z2.toInt32.toNatClampNeg) else (if z1 = 4 then (fun (z13 : eb_St) => (fun (z15 : eb_St) => z15) (m_X7_set z13 6 11 (z13.2 (13 + z2.toInt32.toNatClampNeg) 9))) (m_X7_set σ 6 10 ((σ.1 (13 + z2.toInt32.toNatClampNeg) 1).toInt64)) else (fun (z11 : eb_St) => z11) (m_X7_set σ 6 10 (-1))))))) = mm := by rw [qz4]; exact hm
    have hc : eb_M l yX5_isPlace (Cond.code yX5_isPlace cX5_isPlace 2 (some .boolean) :: wsL_law) 0 0 D 33 cy cL ad σ [.long z2] (some (.int (eb_b z4))) σ := by rw [qz4]; exact c_X5_isPlace l D cy ad σ z2
    refine eb_callS (n := 1) X hw hl.1 (rest := []) hc (eb_goodS wi_13_1 wi_13_2 wi_2_15 wi_13_3) rfl (by decide +kernel) ⟨by decide, by decide⟩ rfl rfl (Nat.le_of_ble_eq_true rfl) dX5_answerHost_43 ⟨by decide, by decide⟩ (st' := [.int (eb_b z4)]) rfl (fun H locs hw => ?_)
    refine lv_if_eq (tgt := 62) hx hb dX5_answerHost_46 (by decide) (fun h5 => ?_) (fun h5 => ?_)
    · have hm := (if_pos h5).symm.trans hm
      exact k_X5_answerHost_62 X   σ hm hw (lv_sub hl [2] rfl)
    · have hm := (if_neg h5).symm.trans hm
      refine lv_aload_n hx hb dX5_answerHost_49 rfl (lv_at hl 2 rfl) ?_
      refine eb_get (T := TX5) X hw 10 5 (by decide) ⟨rfl, rfl, rfl⟩ (by decide) (fun _ h => List.mem_cons_of_mem _ (inlX5 _ h)) (List.mem_cons_of_mem _ wi_4_10) (v := .ref (ad 12)) rfl dX5_answerHost_50 ?_
      refine lv_lload_n hx hb dX5_answerHost_53 rfl (lv_at hl 0 rfl) ?_
      refine lv_l2i (v := z2.toInt32) hx hb dX5_answerHost_54 rfl ?_
      have b6 : z2.toInt32.toNatClampNeg < 6 := Nat.not_le.mp (fun q => (show vp_in z2.toInt32 6 from (l_isPlace (by rw [← qz4]; exact h5))) (Or.inr q))
      refine eb_aald (n := 6) X hw 12 (by decide) rfl rfl (l_isPlace (by rw [← qz4]; exact h5)) (a := 13 + z2.toInt32.toNatClampNeg) rfl dX5_answerHost_55 ?_
      refine eb_get (T := TX2) X hw (13 + z2.toInt32.toNatClampNeg) 1 (by omega) (cE_i (by omega)) (by decide) (fun _ h => List.mem_cons_of_mem _ (inlX2 _ h)) (List.mem_cons_of_mem _ wi_7_0) (v := .int (σ.1 (13 + z2.toInt32.toNatClampNeg) 1)) (eb_sI (cE_t (by omega) 1)) dX5_answerHost_56 ?_
      refine lv_if_ne (tgt := 77) hx hb dX5_answerHost_59 (by decide) (fun h7 => ?_) (fun h7 => ?_)
      · have hm := (if_neg h7).symm.trans hm
        refine lv_lload_n hx hb dX5_answerHost_77 rfl (lv_at hl 1 rfl) ?_
        refine lv_ldc2 hx hb hown (hts _ (List.mem_cons_of_mem _ wi_23_11)) dX5_answerHost_78 ?_
        refine eb_lif_ne (tgt := 94) hx hb dX5_answerHost_81 dX5_answerHost_82 (by decide) (fun h8 => ?_) (fun h8 => ?_)
        · have hm := (if_neg h8).symm.trans hm
          refine lv_lload_n hx hb dX5_answerHost_94 rfl (lv_at hl 1 rfl) ?_
          refine lv_ldc2 hx hb hown (hts _ (List.mem_cons_of_mem _ wi_23_13)) dX5_answerHost_95 ?_
          refine eb_lif_ne (tgt := 130) hx hb dX5_answerHost_98 dX5_answerHost_99 (by decide) (fun h9 => ?_) (fun h9 => ?_)
          · have hm := (if_neg h9).symm.trans hm
            refine lv_lload_n hx hb dX5_answerHost_130 rfl (lv_at hl 1 rfl) ?_
            refine lv_ldc2 hx hb hown (hts _ (List.mem_cons_of_mem _ wi_23_5)) dX5_answerHost_131 ?_
            refine eb_lif_ne (tgt := 180) hx hb dX5_answerHost_134 dX5_answerHost_135 (by decide) (fun h10 => ?_) (fun h10 => ?_)
            · have hm := (if_neg h10).symm.trans hm
              refine lv_aload_n hx hb dX5_answerHost_180 rfl (lv_at hl 2 rfl) ?_
              refine eb_get (T := TX5) X hw 10 3 (by decide) ⟨rfl, rfl, rfl⟩ (by decide) (fun _ h => List.mem_cons_of_mem _ (inlX5 _ h)) (List.mem_cons_of_mem _ wi_4_15) (v := .ref (ad 25)) rfl dX5_answerHost_181 ?_
              refine lv_bipush (v := 10) hx hb dX5_answerHost_184 (by decide) ?_
              refine lv_ldc2 hx hb hown (hts _ (List.mem_cons_of_mem _ wi_23_14)) dX5_answerHost_186 ?_
              obtain ⟨z11, qz11⟩ : ∃ t : eb_St, t = m_X7_set σ 6 10 (-1) := ⟨_, rfl⟩
              have hm : z11 = mm := by rw [qz11]; exact hm
              have hc : eb_M l yX7_set (Cond.code yX7_set cX7_set 4 none :: wsL_law) 0 0 D 33 cy cL ad σ [.ref (ad 25), .int 10, .long (-1)] (none) z11 := by rw [qz11]; exact c_X7_set l D cy ad σ 6 10 (-1) (by decide)
              refine eb_callV (n := 2) (as := [.int 10, .long (-1)]) (rest := []) X hw hl.1 25 hc (by decide) ⟨rfl, rfl, rfl⟩ (eb_goodV wi_13_5 wi_13_6 wi_13_7 wi_2_7 wi_13_8) rfl (by decide +kernel) ⟨by decide, by decide⟩ rfl rfl (Nat.le_of_ble_eq_true rfl) dX5_answerHost_189 ⟨by decide, by decide⟩ (st' := []) rfl (fun H locs hw => ?_)
              subst hm
              exact eb_vret X hw rfl rfl dX5_answerHost_192
            · have hm := (if_pos h10).symm.trans hm
              refine lv_aload_n hx hb dX5_answerHost_138 rfl (lv_at hl 2 rfl) ?_
              refine eb_get (T := TX5) X hw 10 3 (by decide) ⟨rfl, rfl, rfl⟩ (by decide) (fun _ h => List.mem_cons_of_mem _ (inlX5 _ h)) (List.mem_cons_of_mem _ wi_4_15) (v := .ref (ad 25)) rfl dX5_answerHost_139 ?_
              refine lv_bipush (v := 10) hx hb dX5_answerHost_142 (by decide) ?_
              refine lv_aload_n hx hb dX5_answerHost_144 rfl (lv_at hl 2 rfl) ?_
              refine eb_get (T := TX5) X hw 10 5 (by decide) ⟨rfl, rfl, rfl⟩ (by decide) (fun _ h => List.mem_cons_of_mem _ (inlX5 _ h)) (List.mem_cons_of_mem _ wi_4_10) (v := .ref (ad 12)) rfl dX5_answerHost_145 ?_
              refine lv_lload_n hx hb dX5_answerHost_148 rfl (lv_at hl 0 rfl) ?_
              refine lv_l2i (v := z2.toInt32) hx hb dX5_answerHost_149 rfl ?_
              have b12 : z2.toInt32.toNatClampNeg < 6 := Nat.not_le.mp (fun q => (show vp_in z2.toInt32 6 from (l_isPlace (by rw [← qz4]; exact h5))) (Or.inr q))
              refine eb_aald (n := 6) X hw 12 (by decide) rfl rfl (l_isPlace (by rw [← qz4]; exact h5)) (a := 13 + z2.toInt32.toNatClampNeg) rfl dX5_answerHost_150 ?_
              refine eb_get (T := TX2) X hw (13 + z2.toInt32.toNatClampNeg) 1 (by omega) (cE_i (by omega)) (by decide) (fun _ h => List.mem_cons_of_mem _ (inlX2 _ h)) (List.mem_cons_of_mem _ wi_7_0) (v := .int (σ.1 (13 + z2.toInt32.toNatClampNeg) 1)) (eb_sI (cE_t (by omega) 1)) dX5_answerHost_151 ?_
              refine lv_i2l (v := (σ.1 (13 + z2.toInt32.toNatClampNeg) 1).toInt64) hx hb dX5_answerHost_154 rfl ?_
              obtain ⟨z13, qz13⟩ : ∃ t : eb_St, t = m_X7_set σ 6 10 ((σ.1 (13 + z2.toInt32.toNatClampNeg) 1).toInt64) := ⟨_, rfl⟩
              have hm : (fun (z15 : eb_St) => z15) (m_X7_set z13 6 11 (z13.2 (13 + z2.toInt32.toNatClampNeg) 9)) = mm := by rw [qz13]; exact hm
              have hc : eb_M l yX7_set (Cond.code yX7_set cX7_set 4 none :: wsL_law) 0 0 D 33 cy cL ad σ [.ref (ad 25), .int 10, .long ((σ.1 (13 + z2.toInt32.toNatClampNeg) 1).toInt64)] (none) z13 := by rw [qz13]; exact c_X7_set l D cy ad σ 6 10 ((σ.1 (13 + z2.toInt32.toNatClampNeg) 1).toInt64) (by decide)
              refine eb_callV (n := 2) (as := [.int 10, .long ((σ.1 (13 + z2.toInt32.toNatClampNeg) 1).toInt64)]) (rest := []) X hw hl.1 25 hc (by decide) ⟨rfl, rfl, rfl⟩ (eb_goodV wi_13_5 wi_13_6 wi_13_7 wi_2_7 wi_13_8) rfl (by decide +kernel) ⟨by decide, by decide⟩ rfl rfl (Nat.le_of_ble_eq_true rfl) dX5_answerHost_155 ⟨by decide, by decide⟩ (st' := []) rfl (fun H locs hw => ?_)
              refine lv_aload_n hx hb dX5_answerHost_158 rfl (lv_at hl 2 rfl) ?_
              refine eb_get (T := TX5) X hw 10 3 (by decide) ⟨rfl, rfl, rfl⟩ (by decide) (fun _ h => List.mem_cons_of_mem _ (inlX5 _ h)) (List.mem_cons_of_mem _ wi_4_15) (v := .ref (ad 25)) rfl dX5_answerHost_159 ?_
              refine lv_bipush (v := 11) hx hb dX5_answerHost_162 (by decide) ?_
              refine lv_aload_n hx hb dX5_answerHost_164 rfl (lv_at hl 2 rfl) ?_
              refine eb_get (T := TX5) X hw 10 5 (by decide) ⟨rfl, rfl, rfl⟩ (by decide) (fun _ h => List.mem_cons_of_mem _ (inlX5 _ h)) (List.mem_cons_of_mem _ wi_4_10) (v := .ref (ad 12)) rfl dX5_answerHost_165 ?_
              refine lv_lload_n hx hb dX5_answerHost_168 rfl (lv_at hl 0 rfl) ?_
              refine lv_l2i (v := z2.toInt32) hx hb dX5_answerHost_169 rfl ?_
              have b14 : z2.toInt32.toNatClampNeg < 6 := Nat.not_le.mp (fun q => (show vp_in z2.toInt32 6 from (l_isPlace (by rw [← qz4]; exact h5))) (Or.inr q))
              refine eb_aald (n := 6) X hw 12 (by decide) rfl rfl (l_isPlace (by rw [← qz4]; exact h5)) (a := 13 + z2.toInt32.toNatClampNeg) rfl dX5_answerHost_170 ?_
              refine eb_get (T := TX2) X hw (13 + z2.toInt32.toNatClampNeg) 9 (by omega) (cE_i (by omega)) (by decide) (fun _ h => List.mem_cons_of_mem _ (inlX2 _ h)) (List.mem_cons_of_mem _ wi_23_19) (v := .long (z13.2 (13 + z2.toInt32.toNatClampNeg) 9)) (eb_sJ (cE_t (by omega) 9)) dX5_answerHost_171 ?_
              obtain ⟨z15, qz15⟩ : ∃ t : eb_St, t = m_X7_set z13 6 11 (z13.2 (13 + z2.toInt32.toNatClampNeg) 9) := ⟨_, rfl⟩
              have hm : z15 = mm := by rw [qz15]; exact hm
              have hc : eb_M l yX7_set (Cond.code yX7_set cX7_set 4 none :: wsL_law) 0 0 D 33 cy cL ad z13 [.ref (ad 25), .int 11, .long (z13.2 (13 + z2.toInt32.toNatClampNeg) 9)] (none) z15 := by rw [qz15]; exact c_X7_set l D cy ad z13 6 11 (z13.2 (13 + z2.toInt32.toNatClampNeg) 9) (by decide)
              refine eb_callV (n := 2) (as := [.int 11, .long (z13.2 (13 + z2.toInt32.toNatClampNeg) 9)]) (rest := []) X hw hl.1 25 hc (by decide) ⟨rfl, rfl, rfl⟩ (eb_goodV wi_13_5 wi_13_6 wi_13_7 wi_2_7 wi_13_8) rfl (by decide +kernel) ⟨by decide, by decide⟩ rfl rfl (Nat.le_of_ble_eq_true rfl) dX5_answerHost_174 ⟨by decide, by decide⟩ (st' := []) rfl (fun H locs hw => ?_)
              refine lv_goto (tgt := 192) hx hb dX5_answerHost_177 (by decide) ?_
              subst hm
              exact eb_vret X hw rfl rfl dX5_answerHost_192
          · have hm := (if_pos h9).symm.trans hm
            refine lv_aload_n hx hb dX5_answerHost_102 rfl (lv_at hl 2 rfl) ?_
            refine lv_aload_n hx hb dX5_answerHost_103 rfl (lv_at hl 2 rfl) ?_
            refine eb_get (T := TX5) X hw 10 5 (by decide) ⟨rfl, rfl, rfl⟩ (by decide) (fun _ h => List.mem_cons_of_mem _ (inlX5 _ h)) (List.mem_cons_of_mem _ wi_4_10) (v := .ref (ad 12)) rfl dX5_answerHost_104 ?_
            refine lv_lload_n hx hb dX5_answerHost_107 rfl (lv_at hl 0 rfl) ?_
            refine lv_l2i (v := z2.toInt32) hx hb dX5_answerHost_108 rfl ?_
            have b16 : z2.toInt32.toNatClampNeg < 6 := Nat.not_le.mp (fun q => (show vp_in z2.toInt32 6 from (l_isPlace (by rw [← qz4]; exact h5))) (Or.inr q))
            refine eb_aald (n := 6) X hw 12 (by decide) rfl rfl (l_isPlace (by rw [← qz4]; exact h5)) (a := 13 + z2.toInt32.toNatClampNeg) rfl dX5_answerHost_109 ?_
            obtain ⟨z17, qz17⟩ : ∃ t : eb_St, t = m_X5_remove σ z2.toInt32.toNatClampNeg := ⟨_, rfl⟩
            have hm : (fun (z18 : eb_St) => (fun (z19 : eb_St) => z19) (m_X7_set z18 6 10 0)) (m_X5_arrange z17) = mm := by rw [qz17]; exact hm
            have hc : eb_M l yX5_remove (Cond.code yX5_remove cX5_remove 2 none :: wsL_law) 3 70 D 33 cy cL ad σ [.ref (ad 10), .ref (ad (13 + z2.toInt32.toNatClampNeg))] (none) z17 := by rw [qz17]; exact c_X5_remove l D cy ad σ z2.toInt32.toNatClampNeg (by omega)
            refine eb_callV (n := 1) (as := [.ref (ad (13 + z2.toInt32.toNatClampNeg))]) (rest := []) X hw hl.1 10 hc (by decide) ⟨rfl, rfl, rfl⟩ (eb_goodV wi_6_20 wi_6_21 wi_6_22 wi_2_15 wi_6_23) rfl (by decide +kernel) ⟨by decide, by decide⟩ rfl rfl (Nat.le_of_ble_eq_true rfl) dX5_answerHost_110 ⟨by decide, by decide⟩ (st' := []) rfl (fun H locs hw => ?_)
            refine lv_aload_n hx hb dX5_answerHost_113 rfl (lv_at hl 2 rfl) ?_
            obtain ⟨z18, qz18⟩ : ∃ t : eb_St, t = m_X5_arrange z17 := ⟨_, rfl⟩
            have hm : (fun (z19 : eb_St) => z19) (m_X7_set z18 6 10 0) = mm := by rw [qz18]; exact hm
            have hc : eb_M l yX5_arrange (Cond.code yX5_arrange cX5_arrange 4 none :: wsL_law) 2 53 D 33 cy cL ad z17 [.ref (ad 10)] (none) z18 := by rw [qz18]; exact c_X5_arrange l D cy ad z17 
            refine eb_callV (n := 0) (as := []) (rest := []) X hw hl.1 10 hc (by decide) ⟨rfl, rfl, rfl⟩ (eb_goodV wi_13_9 wi_13_10 wi_13_11 wi_2_15 wi_13_12) rfl (by decide +kernel) ⟨by decide, by decide⟩ rfl rfl (Nat.le_of_ble_eq_true rfl) dX5_answerHost_114 ⟨by decide, by decide⟩ (st' := []) rfl (fun H locs hw => ?_)
            refine lv_aload_n hx hb dX5_answerHost_117 rfl (lv_at hl 2 rfl) ?_
            refine eb_get (T := TX5) X hw 10 3 (by decide) ⟨rfl, rfl, rfl⟩ (by decide) (fun _ h => List.mem_cons_of_mem _ (inlX5 _ h)) (List.mem_cons_of_mem _ wi_4_15) (v := .ref (ad 25)) rfl dX5_answerHost_118 ?_
            refine lv_bipush (v := 10) hx hb dX5_answerHost_121 (by decide) ?_
            refine lv_lconst (v := 0) hx hb dX5_answerHost_123 (by decide) ?_
            obtain ⟨z19, qz19⟩ : ∃ t : eb_St, t = m_X7_set z18 6 10 0 := ⟨_, rfl⟩
            have hm : z19 = mm := by rw [qz19]; exact hm
            have hc : eb_M l yX7_set (Cond.code yX7_set cX7_set 4 none :: wsL_law) 0 0 D 33 cy cL ad z18 [.ref (ad 25), .int 10, .long 0] (none) z19 := by rw [qz19]; exact c_X7_set l D cy ad z18 6 10 0 (by decide)
            refine eb_callV (n := 2) (as := [.int 10, .long 0]) (rest := []) X hw hl.1 25 hc (by decide) ⟨rfl, rfl, rfl⟩ (eb_goodV wi_13_5 wi_13_6 wi_13_7 wi_2_7 wi_13_8) rfl (by decide +kernel) ⟨by decide, by decide⟩ rfl rfl (Nat.le_of_ble_eq_true rfl) dX5_answerHost_124 ⟨by decide, by decide⟩ (st' := []) rfl (fun H locs hw => ?_)
            refine lv_goto (tgt := 192) hx hb dX5_answerHost_127 (by decide) ?_
            subst hm
            exact eb_vret X hw rfl rfl dX5_answerHost_192
        · have hm := (if_pos h8).symm.trans hm
          refine lv_aload_n hx hb dX5_answerHost_85 rfl (lv_at hl 2 rfl) ?_
          refine lv_lload_n hx hb dX5_answerHost_86 rfl (lv_at hl 0 rfl) ?_
          refine lv_l2i (v := z2.toInt32) hx hb dX5_answerHost_87 rfl ?_
          obtain ⟨z20, qz20⟩ : ∃ t : eb_St, t = m_X5_enter σ z2.toInt32 := ⟨_, rfl⟩
          have hm : z20 = mm := by rw [qz20]; exact hm
          have hc : eb_M l yX5_enter (Cond.code yX5_enter cX5_enter 3 none :: wsL_law) 3 76 D 33 cy cL ad σ [.ref (ad 10), .int z2.toInt32] (none) z20 := by rw [qz20]; exact c_X5_enter l D cy ad σ z2.toInt32 (l_isPlace (by rw [← qz4]; exact h5))
          refine eb_callV (n := 1) (as := [.int z2.toInt32]) (rest := []) X hw hl.1 10 hc (by decide) ⟨rfl, rfl, rfl⟩ (eb_goodV wi_28_13 wi_28_14 wi_28_15 wi_2_15 wi_28_16) rfl (by decide +kernel) ⟨by decide, by decide⟩ rfl rfl (Nat.le_of_ble_eq_true rfl) dX5_answerHost_88 ⟨by decide, by decide⟩ (st' := []) rfl (fun H locs hw => ?_)
          refine lv_goto (tgt := 192) hx hb dX5_answerHost_91 (by decide) ?_
          subst hm
          exact eb_vret X hw rfl rfl dX5_answerHost_192
      · have hm := (if_pos h7).symm.trans hm
        exact k_X5_answerHost_62 X   σ hm hw (lv_sub hl [2] rfl)
  · have hm := (if_pos h3).symm.trans hm
    refine lv_aload_n hx hb dX5_answerHost_26 rfl (lv_at hl 2 rfl) ?_
    refine eb_get (T := TX5) X hw 10 3 (by decide) ⟨rfl, rfl, rfl⟩ (by decide) (fun _ h => List.mem_cons_of_mem _ (inlX5 _ h)) (List.mem_cons_of_mem _ wi_4_15) (v := .ref (ad 25)) rfl dX5_answerHost_27 ?_
    refine lv_bipush (v := 10) hx hb dX5_answerHost_30 (by decide) ?_
    refine lv_aload_n hx hb dX5_answerHost_32 rfl (lv_at hl 2 rfl) ?_
    obtain ⟨z21, qz21⟩ : ∃ t : Int64 × eb_St, t = m_X5_create σ := ⟨_, rfl⟩
    have hm : (fun (z22 : eb_St) => z22) (m_X7_set z21.2 6 10 z21.1) = mm := by rw [qz21]; exact hm
    have hc : eb_M l yX5_create (Cond.code yX5_create cX5_create 6 (some .long) :: wsL_law) 3 76 D 33 cy cL ad σ [.ref (ad 10)] (some (.long z21.1)) z21.2 := by rw [qz21]; exact c_X5_create l D cy ad σ 
    refine eb_callV (n := 0) (as := []) (rest := [.int 10, .ref (ad 25)]) X hw hl.1 10 hc (by decide) ⟨rfl, rfl, rfl⟩ (eb_goodV wi_23_20 wi_23_21 wi_23_22 wi_2_15 wi_23_23) rfl (by decide +kernel) ⟨by decide, by decide⟩ rfl rfl (Nat.le_of_ble_eq_true rfl) dX5_answerHost_33 ⟨by decide, by decide⟩ (st' := [.long z21.1, .int 10, .ref (ad 25)]) rfl (fun H locs hw => ?_)
    obtain ⟨z22, qz22⟩ : ∃ t : eb_St, t = m_X7_set z21.2 6 10 z21.1 := ⟨_, rfl⟩
    have hm : z22 = mm := by rw [qz22]; exact hm
    have hc : eb_M l yX7_set (Cond.code yX7_set cX7_set 4 none :: wsL_law) 0 0 D 33 cy cL ad z21.2 [.ref (ad 25), .int 10, .long z21.1] (none) z22 := by rw [qz22]; exact c_X7_set l D cy ad z21.2 6 10 z21.1 (by decide)
    refine eb_callV (n := 2) (as := [.int 10, .long z21.1]) (rest := []) X hw hl.1 25 hc (by decide) ⟨rfl, rfl, rfl⟩ (eb_goodV wi_13_5 wi_13_6 wi_13_7 wi_2_7 wi_13_8) rfl (by decide +kernel) ⟨by decide, by decide⟩ rfl rfl (Nat.le_of_ble_eq_true rfl) dX5_answerHost_36 ⟨by decide, by decide⟩ (st' := []) rfl (fun H locs hw => ?_)
    refine lv_goto (tgt := 192) hx hb dX5_answerHost_39 (by decide) ?_
    subst hm
    exact eb_vret X hw rfl rfl dX5_answerHost_192

set_option maxHeartbeats 4000000 in
set_option maxRecDepth 100000 in
theorem c_X5_answerEnclave (l : Launch) (D : va_G) (cy : Nat → ClassId) (ad : Nat → Nat) (σ : eb_St) (a0 : Nat) (ba0 : a0 < 6) : eb_M l yX5_answerEnclave (Cond.code yX5_answerEnclave cX5_answerEnclave 4 none :: wsL_law) 1 23 D 33 cy cL ad σ [.ref (ad (13 + a0))] (none) (m_X5_answerEnclave σ a0) := by
  refine eb_start (own := RX5) (by decide) rfl rfl (Nat.le_of_ble_eq_true rfl) ?_
  intro p e s m args below meth c A ls X hw hl
  have hl : lv_has ls 4 [(0, .ref (ad (13 + a0)))] := hl
  have hx := X.1.1
  have hb := X.1.2.1
  have hown := X.1.2.2.2.1
  have hts := X.1.2.2.2.2
  generalize hm : m_X5_answerEnclave σ a0 = mm
  have hm : (fun (z1 : Int64) => (if z1 = 2 then (fun (z9 : eb_St) => z9) (m_X7_set σ a0 10 (σ.2 (13 + a0) 10)) else (if z1 = 3 then (fun (z5 : eb_St) => (fun (z6 : eb_St) => (fun (z7 : eb_St) => (fun (z8 : eb_St) => z8) (m_X7_set z7 a0 13 ((z7.1 (13 + a0) 6).toInt64))) (m_X7_set z6 a0 12 ((z6.1 (13 + a0) 5).toInt64))) (m_X7_set z5 a0 11 ((z5.1 (13 + a0) 3).toInt64))) (m_X7_set σ a0 10 ((σ.1 (13 + a0) 2).toInt64)) else (fun (z4 : eb_St) => z4) (m_X7_set σ a0 10 (-1))))) (m_X7_get σ a0 17) = mm := hm
  refine lv_aload_n hx hb dX5_answerEnclave_0 rfl (lv_at hl 0 rfl) ?_
  refine eb_get (T := TX2) X hw (13 + a0) 0 (by omega) (cE_i (by omega)) (by decide) (fun _ h => List.mem_cons_of_mem _ (inlX2 _ h)) (List.mem_cons_of_mem _ wi_14_10) (v := .ref (ad (19 + a0))) (eb_sR (cE_t (by omega) 0) (cE_g (by omega))) dX5_answerEnclave_1 ?_
  refine lv_astore_n (lv' := [(1, .ref (ad (19 + a0))), (0, .ref (ad (13 + a0)))]) hx hb dX5_answerEnclave_4 rfl hl (by decide) rfl (fun ls hl => ?_)
  refine lv_aload_n hx hb dX5_answerEnclave_5 rfl (lv_at hl 0 rfl) ?_
  refine lv_bipush (v := 17) hx hb dX5_answerEnclave_6 (by decide) ?_
  obtain ⟨z1, qz1⟩ : ∃ t : Int64, t = m_X7_get σ a0 17 := ⟨_, rfl⟩
  have hm : (if z1 = 2 then (fun (z9 : eb_St) => z9) (m_X7_set σ a0 10 (σ.2 (13 + a0) 10)) else (if z1 = 3 then (fun (z5 : eb_St) => (fun (z6 : eb_St) => (fun (z7 : eb_St) => (fun (z8 : eb_St) => z8) (m_X7_set z7 a0 13 ((z7.1 (13 + a0) 6).toInt64))) (m_X7_set z6 a0 12 ((z6.1 (13 + a0) 5).toInt64))) (m_X7_set z5 a0 11 ((z5.1 (13 + a0) 3).toInt64))) (m_X7_set σ a0 10 ((σ.1 (13 + a0) 2).toInt64)) else (fun (z4 : eb_St) => z4) (m_X7_set σ a0 10 (-1)))) = mm := by rw [qz1]; exact hm
  have hc : eb_M l yX7_get (Cond.code yX7_get cX7_get 2 (some .long) :: wsL_law) 0 0 D 33 cy cL ad σ [.ref (ad (19 + a0)), .int 17] (some (.long z1)) σ := by rw [qz1]; exact c_X7_get l D cy ad σ a0 17 (by omega)
  refine eb_callV (n := 1) (as := [.int 17]) (rest := []) X hw hl.1 (19 + a0) hc (by omega) (cR_i (by omega)) (eb_goodV wi_23_7 wi_16_5 wi_16_6 wi_2_7 wi_16_7) rfl (by decide +kernel) ⟨by decide, by decide⟩ rfl rfl (Nat.le_of_ble_eq_true rfl) dX5_answerEnclave_8 ⟨by decide, by decide⟩ (st' := [.long z1]) rfl (fun H locs hw => ?_)
  refine lv_lstore_n (lv' := [(2, .long z1), (1, .ref (ad (19 + a0))), (0, .ref (ad (13 + a0)))]) hx hb dX5_answerEnclave_11 rfl hl (by decide) rfl (fun ls hl => ?_)
  refine lv_lload_n hx hb dX5_answerEnclave_12 rfl (lv_at hl 0 rfl) ?_
  refine lv_ldc2 hx hb hown (hts _ (List.mem_cons_of_mem _ wi_23_11)) dX5_answerEnclave_13 ?_
  refine eb_lif_ne (tgt := 33) hx hb dX5_answerEnclave_16 dX5_answerEnclave_17 (by decide) (fun h2 => ?_) (fun h2 => ?_)
  · have hm := (if_neg h2).symm.trans hm
    refine lv_lload_n hx hb dX5_answerEnclave_33 rfl (lv_at hl 0 rfl) ?_
    refine lv_ldc2 hx hb hown (hts _ (List.mem_cons_of_mem _ wi_23_13)) dX5_answerEnclave_34 ?_
    refine eb_lif_ne (tgt := 88) hx hb dX5_answerEnclave_37 dX5_answerEnclave_38 (by decide) (fun h3 => ?_) (fun h3 => ?_)
    · have hm := (if_neg h3).symm.trans hm
      refine lv_aload_n hx hb dX5_answerEnclave_88 rfl (lv_at hl 1 rfl) ?_
      refine lv_bipush (v := 10) hx hb dX5_answerEnclave_89 (by decide) ?_
      refine lv_ldc2 hx hb hown (hts _ (List.mem_cons_of_mem _ wi_23_14)) dX5_answerEnclave_91 ?_
      obtain ⟨z4, qz4⟩ : ∃ t : eb_St, t = m_X7_set σ a0 10 (-1) := ⟨_, rfl⟩
      have hm : z4 = mm := by rw [qz4]; exact hm
      have hc : eb_M l yX7_set (Cond.code yX7_set cX7_set 4 none :: wsL_law) 0 0 D 33 cy cL ad σ [.ref (ad (19 + a0)), .int 10, .long (-1)] (none) z4 := by rw [qz4]; exact c_X7_set l D cy ad σ a0 10 (-1) (by omega)
      refine eb_callV (n := 2) (as := [.int 10, .long (-1)]) (rest := []) X hw hl.1 (19 + a0) hc (by omega) (cR_i (by omega)) (eb_goodV wi_13_5 wi_13_6 wi_13_7 wi_2_7 wi_13_8) rfl (by decide +kernel) ⟨by decide, by decide⟩ rfl rfl (Nat.le_of_ble_eq_true rfl) dX5_answerEnclave_94 ⟨by decide, by decide⟩ (st' := []) rfl (fun H locs hw => ?_)
      subst hm
      exact eb_vret X hw rfl rfl dX5_answerEnclave_97
    · have hm := (if_pos h3).symm.trans hm
      refine lv_aload_n hx hb dX5_answerEnclave_41 rfl (lv_at hl 1 rfl) ?_
      refine lv_bipush (v := 10) hx hb dX5_answerEnclave_42 (by decide) ?_
      refine lv_aload_n hx hb dX5_answerEnclave_44 rfl (lv_at hl 2 rfl) ?_
      refine eb_get (T := TX2) X hw (13 + a0) 2 (by omega) (cE_i (by omega)) (by decide) (fun _ h => List.mem_cons_of_mem _ (inlX2 _ h)) (List.mem_cons_of_mem _ wi_7_1) (v := .int (σ.1 (13 + a0) 2)) (eb_sI (cE_t (by omega) 2)) dX5_answerEnclave_45 ?_
      refine lv_i2l (v := (σ.1 (13 + a0) 2).toInt64) hx hb dX5_answerEnclave_48 rfl ?_
      obtain ⟨z5, qz5⟩ : ∃ t : eb_St, t = m_X7_set σ a0 10 ((σ.1 (13 + a0) 2).toInt64) := ⟨_, rfl⟩
      have hm : (fun (z6 : eb_St) => (fun (z7 : eb_St) => (fun (z8 : eb_St) => z8) (m_X7_set z7 a0 13 ((z7.1 (13 + a0) 6).toInt64))) (m_X7_set z6 a0 12 ((z6.1 (13 + a0) 5).toInt64))) (m_X7_set z5 a0 11 ((z5.1 (13 + a0) 3).toInt64)) = mm := by rw [qz5]; exact hm
      have hc : eb_M l yX7_set (Cond.code yX7_set cX7_set 4 none :: wsL_law) 0 0 D 33 cy cL ad σ [.ref (ad (19 + a0)), .int 10, .long ((σ.1 (13 + a0) 2).toInt64)] (none) z5 := by rw [qz5]; exact c_X7_set l D cy ad σ a0 10 ((σ.1 (13 + a0) 2).toInt64) (by omega)
      refine eb_callV (n := 2) (as := [.int 10, .long ((σ.1 (13 + a0) 2).toInt64)]) (rest := []) X hw hl.1 (19 + a0) hc (by omega) (cR_i (by omega)) (eb_goodV wi_13_5 wi_13_6 wi_13_7 wi_2_7 wi_13_8) rfl (by decide +kernel) ⟨by decide, by decide⟩ rfl rfl (Nat.le_of_ble_eq_true rfl) dX5_answerEnclave_49 ⟨by decide, by decide⟩ (st' := []) rfl (fun H locs hw => ?_)
      refine lv_aload_n hx hb dX5_answerEnclave_52 rfl (lv_at hl 1 rfl) ?_
      refine lv_bipush (v := 11) hx hb dX5_answerEnclave_53 (by decide) ?_
      refine lv_aload_n hx hb dX5_answerEnclave_55 rfl (lv_at hl 2 rfl) ?_
      refine eb_get (T := TX2) X hw (13 + a0) 3 (by omega) (cE_i (by omega)) (by decide) (fun _ h => List.mem_cons_of_mem _ (inlX2 _ h)) (List.mem_cons_of_mem _ wi_7_2) (v := .int (z5.1 (13 + a0) 3)) (eb_sI (cE_t (by omega) 3)) dX5_answerEnclave_56 ?_
      refine lv_i2l (v := (z5.1 (13 + a0) 3).toInt64) hx hb dX5_answerEnclave_59 rfl ?_
      obtain ⟨z6, qz6⟩ : ∃ t : eb_St, t = m_X7_set z5 a0 11 ((z5.1 (13 + a0) 3).toInt64) := ⟨_, rfl⟩
      have hm : (fun (z7 : eb_St) => (fun (z8 : eb_St) => z8) (m_X7_set z7 a0 13 ((z7.1 (13 + a0) 6).toInt64))) (m_X7_set z6 a0 12 ((z6.1 (13 + a0) 5).toInt64)) = mm := by rw [qz6]; exact hm
      have hc : eb_M l yX7_set (Cond.code yX7_set cX7_set 4 none :: wsL_law) 0 0 D 33 cy cL ad z5 [.ref (ad (19 + a0)), .int 11, .long ((z5.1 (13 + a0) 3).toInt64)] (none) z6 := by rw [qz6]; exact c_X7_set l D cy ad z5 a0 11 ((z5.1 (13 + a0) 3).toInt64) (by omega)
      refine eb_callV (n := 2) (as := [.int 11, .long ((z5.1 (13 + a0) 3).toInt64)]) (rest := []) X hw hl.1 (19 + a0) hc (by omega) (cR_i (by omega)) (eb_goodV wi_13_5 wi_13_6 wi_13_7 wi_2_7 wi_13_8) rfl (by decide +kernel) ⟨by decide, by decide⟩ rfl rfl (Nat.le_of_ble_eq_true rfl) dX5_answerEnclave_60 ⟨by decide, by decide⟩ (st' := []) rfl (fun H locs hw => ?_)
      refine lv_aload_n hx hb dX5_answerEnclave_63 rfl (lv_at hl 1 rfl) ?_
      refine lv_bipush (v := 12) hx hb dX5_answerEnclave_64 (by decide) ?_
      refine lv_aload_n hx hb dX5_answerEnclave_66 rfl (lv_at hl 2 rfl) ?_
      refine eb_get (T := TX2) X hw (13 + a0) 5 (by omega) (cE_i (by omega)) (by decide) (fun _ h => List.mem_cons_of_mem _ (inlX2 _ h)) (List.mem_cons_of_mem _ wi_13_14) (v := .int (z6.1 (13 + a0) 5)) (eb_sI (cE_t (by omega) 5)) dX5_answerEnclave_67 ?_
      refine lv_i2l (v := (z6.1 (13 + a0) 5).toInt64) hx hb dX5_answerEnclave_70 rfl ?_
      obtain ⟨z7, qz7⟩ : ∃ t : eb_St, t = m_X7_set z6 a0 12 ((z6.1 (13 + a0) 5).toInt64) := ⟨_, rfl⟩
      have hm : (fun (z8 : eb_St) => z8) (m_X7_set z7 a0 13 ((z7.1 (13 + a0) 6).toInt64)) = mm := by rw [qz7]; exact hm
      have hc : eb_M l yX7_set (Cond.code yX7_set cX7_set 4 none :: wsL_law) 0 0 D 33 cy cL ad z6 [.ref (ad (19 + a0)), .int 12, .long ((z6.1 (13 + a0) 5).toInt64)] (none) z7 := by rw [qz7]; exact c_X7_set l D cy ad z6 a0 12 ((z6.1 (13 + a0) 5).toInt64) (by omega)
      refine eb_callV (n := 2) (as := [.int 12, .long ((z6.1 (13 + a0) 5).toInt64)]) (rest := []) X hw hl.1 (19 + a0) hc (by omega) (cR_i (by omega)) (eb_goodV wi_13_5 wi_13_6 wi_13_7 wi_2_7 wi_13_8) rfl (by decide +kernel) ⟨by decide, by decide⟩ rfl rfl (Nat.le_of_ble_eq_true rfl) dX5_answerEnclave_71 ⟨by decide, by decide⟩ (st' := []) rfl (fun H locs hw => ?_)
      refine lv_aload_n hx hb dX5_answerEnclave_74 rfl (lv_at hl 1 rfl) ?_
      refine lv_bipush (v := 13) hx hb dX5_answerEnclave_75 (by decide) ?_
      refine lv_aload_n hx hb dX5_answerEnclave_77 rfl (lv_at hl 2 rfl) ?_
      refine eb_get (T := TX2) X hw (13 + a0) 6 (by omega) (cE_i (by omega)) (by decide) (fun _ h => List.mem_cons_of_mem _ (inlX2 _ h)) (List.mem_cons_of_mem _ wi_13_13) (v := .int (z7.1 (13 + a0) 6)) (eb_sI (cE_t (by omega) 6)) dX5_answerEnclave_78 ?_
      refine lv_i2l (v := (z7.1 (13 + a0) 6).toInt64) hx hb dX5_answerEnclave_81 rfl ?_
      obtain ⟨z8, qz8⟩ : ∃ t : eb_St, t = m_X7_set z7 a0 13 ((z7.1 (13 + a0) 6).toInt64) := ⟨_, rfl⟩
      have hm : z8 = mm := by rw [qz8]; exact hm
      have hc : eb_M l yX7_set (Cond.code yX7_set cX7_set 4 none :: wsL_law) 0 0 D 33 cy cL ad z7 [.ref (ad (19 + a0)), .int 13, .long ((z7.1 (13 + a0) 6).toInt64)] (none) z8 := by rw [qz8]; exact c_X7_set l D cy ad z7 a0 13 ((z7.1 (13 + a0) 6).toInt64) (by omega)
      refine eb_callV (n := 2) (as := [.int 13, .long ((z7.1 (13 + a0) 6).toInt64)]) (rest := []) X hw hl.1 (19 + a0) hc (by omega) (cR_i (by omega)) (eb_goodV wi_13_5 wi_13_6 wi_13_7 wi_2_7 wi_13_8) rfl (by decide +kernel) ⟨by decide, by decide⟩ rfl rfl (Nat.le_of_ble_eq_true rfl) dX5_answerEnclave_82 ⟨by decide, by decide⟩ (st' := []) rfl (fun H locs hw => ?_)
      refine lv_goto (tgt := 97) hx hb dX5_answerEnclave_85 (by decide) ?_
      subst hm
      exact eb_vret X hw rfl rfl dX5_answerEnclave_97
  · have hm := (if_pos h2).symm.trans hm
    refine lv_aload_n hx hb dX5_answerEnclave_20 rfl (lv_at hl 1 rfl) ?_
    refine lv_bipush (v := 10) hx hb dX5_answerEnclave_21 (by decide) ?_
    refine lv_aload_n hx hb dX5_answerEnclave_23 rfl (lv_at hl 2 rfl) ?_
    refine eb_get (T := TX2) X hw (13 + a0) 10 (by omega) (cE_i (by omega)) (by decide) (fun _ h => List.mem_cons_of_mem _ (inlX2 _ h)) (List.mem_cons_of_mem _ wi_23_12) (v := .long (σ.2 (13 + a0) 10)) (eb_sJ (cE_t (by omega) 10)) dX5_answerEnclave_24 ?_
    obtain ⟨z9, qz9⟩ : ∃ t : eb_St, t = m_X7_set σ a0 10 (σ.2 (13 + a0) 10) := ⟨_, rfl⟩
    have hm : z9 = mm := by rw [qz9]; exact hm
    have hc : eb_M l yX7_set (Cond.code yX7_set cX7_set 4 none :: wsL_law) 0 0 D 33 cy cL ad σ [.ref (ad (19 + a0)), .int 10, .long (σ.2 (13 + a0) 10)] (none) z9 := by rw [qz9]; exact c_X7_set l D cy ad σ a0 10 (σ.2 (13 + a0) 10) (by omega)
    refine eb_callV (n := 2) (as := [.int 10, .long (σ.2 (13 + a0) 10)]) (rest := []) X hw hl.1 (19 + a0) hc (by omega) (cR_i (by omega)) (eb_goodV wi_13_5 wi_13_6 wi_13_7 wi_2_7 wi_13_8) rfl (by decide +kernel) ⟨by decide, by decide⟩ rfl rfl (Nat.le_of_ble_eq_true rfl) dX5_answerEnclave_27 ⟨by decide, by decide⟩ (st' := []) rfl (fun H locs hw => ?_)
    refine lv_goto (tgt := 97) hx hb dX5_answerEnclave_30 (by decide) ?_
    subst hm
    exact eb_vret X hw rfl rfl dX5_answerEnclave_97

set_option maxHeartbeats 4000000 in
set_option maxRecDepth 100000 in
theorem k_X5_settleStay_113 {p : Program} {l : Launch} {e : Env} {s : State} {m : MethodId} {args : Array Value} {below : List Frame} {meth : Method} {c : Code} {A : Nat → Prop} {H : Heap} {locs : List Loc} {ls : Array Slot} {D : va_G} {cy : Nat → ClassId} {ad : Nat → Nat} (X : eb_X p s m args meth c cX5_settleStay 3 RX5 (Cond.code yX5_settleStay cX5_settleStay 3 none :: wsL_law) none D cy A)   (σ : eb_St)   {mm : eb_St} (hm : (m_X5_settleStay_113  σ ) = mm) (hw : eb_H D 33 cy cL ad A s.heap σ H locs) (hl : lv_has ls 3 [(0, .ref (ad 10))]) : W p l e ({ frames := 4, cells := 0, slots := 0, locals := 99 } : Room) s m args below meth c H locs 0 0 (MQ below (eb_Q D 33 cy cL ad A (none) mm) args s 0 0 A) (F0 m 113 ls []) := by
  have hx := X.1.1
  have hb := X.1.2.1
  have hown := X.1.2.2.2.1
  have hts := X.1.2.2.2.2
  have hm : (if (σ.1 10 6) = (-1) then σ else (if (σ.2 10 8) = (σ.2 10 7) then (fun (z16 : eb_St) => z16) (m_X5_leave σ 1 0) else σ)) = mm := hm
  refine lv_aload_n hx hb dX5_settleStay_113 rfl (lv_at hl 0 rfl) ?_
  refine eb_get (T := TX5) X hw 10 6 (by decide) ⟨rfl, rfl, rfl⟩ (by decide) (fun _ h => List.mem_cons_of_mem _ (inlX5 _ h)) (List.mem_cons_of_mem _ wi_4_11) (v := .int (σ.1 10 6)) rfl dX5_settleStay_114 ?_
  refine lv_iconst (v := (-1)) hx hb dX5_settleStay_117 (by decide) ?_
  refine lv_icmp_eq (tgt := 139) hx hb dX5_settleStay_118 (by decide) (fun h14 => ?_) (fun h14 => ?_)
  · have hm := (if_pos h14).symm.trans hm
    subst hm
    exact eb_vret X hw rfl rfl dX5_settleStay_139
  · have hm := (if_neg h14).symm.trans hm
    refine lv_aload_n hx hb dX5_settleStay_121 rfl (lv_at hl 0 rfl) ?_
    refine eb_get (T := TX5) X hw 10 8 (by decide) ⟨rfl, rfl, rfl⟩ (by decide) (fun _ h => List.mem_cons_of_mem _ (inlX5 _ h)) (List.mem_cons_of_mem _ wi_23_3) (v := .long (σ.2 10 8)) rfl dX5_settleStay_122 ?_
    refine lv_aload_n hx hb dX5_settleStay_125 rfl (lv_at hl 0 rfl) ?_
    refine eb_get (T := TX5) X hw 10 7 (by decide) ⟨rfl, rfl, rfl⟩ (by decide) (fun _ h => List.mem_cons_of_mem _ (inlX5 _ h)) (List.mem_cons_of_mem _ wi_23_6) (v := .long (σ.2 10 7)) rfl dX5_settleStay_126 ?_
    refine eb_lif_ne (tgt := 139) hx hb dX5_settleStay_129 dX5_settleStay_130 (by decide) (fun h15 => ?_) (fun h15 => ?_)
    · have hm := (if_neg h15).symm.trans hm
      subst hm
      exact eb_vret X hw rfl rfl dX5_settleStay_139
    · have hm := (if_pos h15).symm.trans hm
      refine lv_aload_n hx hb dX5_settleStay_133 rfl (lv_at hl 0 rfl) ?_
      refine lv_iconst (v := 1) hx hb dX5_settleStay_134 (by decide) ?_
      refine lv_lconst (v := 0) hx hb dX5_settleStay_135 (by decide) ?_
      obtain ⟨z16, qz16⟩ : ∃ t : eb_St, t = m_X5_leave σ 1 0 := ⟨_, rfl⟩
      have hm : z16 = mm := by rw [qz16]; exact hm
      have hc : eb_M l yX5_leave (Cond.code yX5_leave cX5_leave 4 none :: wsL_law) 3 76 D 33 cy cL ad σ [.ref (ad 10), .int 1, .long 0] (none) z16 := by rw [qz16]; exact c_X5_leave l D cy ad σ 1 0
      refine eb_callV (n := 2) (as := [.int 1, .long 0]) (rest := []) X hw hl.1 10 hc (by decide) ⟨rfl, rfl, rfl⟩ (eb_goodV wi_12_21 wi_12_22 wi_12_23 wi_2_15 wi_13_0) rfl (by decide +kernel) ⟨by decide, by decide⟩ rfl rfl (Nat.le_of_ble_eq_true rfl) dX5_settleStay_136 ⟨by decide, by decide⟩ (st' := []) rfl (fun H locs hw => ?_)
      subst hm
      exact eb_vret X hw rfl rfl dX5_settleStay_139
set_option maxHeartbeats 4000000 in
set_option maxRecDepth 100000 in
theorem c_X5_settleStay (l : Launch) (D : va_G) (cy : Nat → ClassId) (ad : Nat → Nat) (σ : eb_St) (a0 : Int32)  : eb_M l yX5_settleStay (Cond.code yX5_settleStay cX5_settleStay 3 none :: wsL_law) 4 99 D 33 cy cL ad σ [.ref (ad 10), .int a0] (none) (m_X5_settleStay σ a0) := by
  refine eb_start (own := RX5) (by decide) rfl rfl (Nat.le_of_ble_eq_true rfl) ?_
  intro p e s m args below meth c A ls X hw hl
  have hl : lv_has ls 3 [(0, .ref (ad 10)), (1, .int a0)] := hl
  have hx := X.1.1
  have hb := X.1.2.1
  have hown := X.1.2.2.2.1
  have hts := X.1.2.2.2.2
  generalize hm : m_X5_settleStay σ a0 = mm
  have hm : (fun (z1 : Bool) => (if (eb_b z1) = 0 then σ else (fun (x4 : Int32) => (if a0 = 11 then (fun (x8 : Int64) => (fun (z9 : Int64) => (if z9 = 1 then (fun (z12 : Int64) => (fun (z13 : eb_St) => m_X5_settleStay_113  z13) (m_X5_leave (eb_pJ (eb_pJ (eb_pI σ (13 + ((σ.1 10 6).toNatClampNeg)) 8 x4) 10 8 ((σ.2 10 8) + 1)) (19 + ((σ.1 10 6).toNatClampNeg)) 1 x8) 0 z12)) (m_X7_get (eb_pJ (eb_pJ (eb_pI σ (13 + ((σ.1 10 6).toNatClampNeg)) 8 x4) 10 8 ((σ.2 10 8) + 1)) (19 + ((σ.1 10 6).toNatClampNeg)) 1 x8) ((σ.1 10 6).toNatClampNeg) 10) else (fun (z11 : eb_St) => m_X5_settleStay_113  z11) (m_X5_answerEnclave (eb_pJ (eb_pJ (eb_pI σ (13 + ((σ.1 10 6).toNatClampNeg)) 8 x4) 10 8 ((σ.2 10 8) + 1)) (19 + ((σ.1 10 6).toNatClampNeg)) 1 x8) ((σ.1 10 6).toNatClampNeg)))) (m_X7_get (eb_pJ (eb_pJ (eb_pI σ (13 + ((σ.1 10 6).toNatClampNeg)) 8 x4) 10 8 ((σ.2 10 8) + 1)) (19 + ((σ.1 10 6).toNatClampNeg)) 1 x8) ((σ.1 10 6).toNatClampNeg) 17)) (((eb_pJ (eb_pI σ (13 + ((σ.1 10 6).toNatClampNeg)) 8 x4) 10 8 ((σ.2 10 8) + 1)).2 (19 + ((σ.1 10 6).toNatClampNeg)) 1) + 4) else (if a0 = (-1) then m_X5_settleStay_113  (eb_pJ (eb_pI σ (13 + ((σ.1 10 6).toNatClampNeg)) 8 x4) 10 8 ((σ.2 10 8) + 1)) else (fun (z7 : eb_St) => m_X5_settleStay_113  z7) (m_X5_leave (eb_pJ (eb_pI σ (13 + ((σ.1 10 6).toNatClampNeg)) 8 x4) 10 8 ((σ.2 10 8) + 1)) 2 a0.toInt64)))) ((σ.1 (13 + ((σ.1 10 6).toNatClampNeg)) 8) + 1))) (m_X5_isPlace ((σ.1 10 6).toInt64)) = mm := hm
  refine lv_aload_n hx hb dX5_settleStay_0 rfl (lv_at hl 0 rfl) ?_
  refine eb_get (T := TX5) X hw 10 6 (by decide) ⟨rfl, rfl, rfl⟩ (by decide) (fun _ h => List.mem_cons_of_mem _ (inlX5 _ h)) (List.mem_cons_of_mem _ wi_4_11) (v := .int (σ.1 10 6)) rfl dX5_settleStay_1 ?_
  refine lv_i2l (v := (σ.1 10 6).toInt64) hx hb dX5_settleStay_4 rfl ?_
  obtain ⟨z1, qz1⟩ : ∃ t : Bool, t = m_X5_isPlace ((σ.1 10 6).toInt64) := ⟨_, rfl⟩
  have hm : (if (eb_b z1) = 0 then σ else (fun (x4 : Int32) => (if a0 = 11 then (fun (x8 : Int64) => (fun (z9 : Int64) => (if z9 = 1 then (fun (z12 : Int64) => (fun (z13 : eb_St) => m_X5_settleStay_113  z13) (m_X5_leave (eb_pJ (eb_pJ (eb_pI σ (13 + ((σ.1 10 6).toNatClampNeg)) 8 x4) 10 8 ((σ.2 10 8) + 1)) (19 + ((σ.1 10 6).toNatClampNeg)) 1 x8) 0 z12)) (m_X7_get (eb_pJ (eb_pJ (eb_pI σ (13 + ((σ.1 10 6).toNatClampNeg)) 8 x4) 10 8 ((σ.2 10 8) + 1)) (19 + ((σ.1 10 6).toNatClampNeg)) 1 x8) ((σ.1 10 6).toNatClampNeg) 10) else (fun (z11 : eb_St) => m_X5_settleStay_113  z11) (m_X5_answerEnclave (eb_pJ (eb_pJ (eb_pI σ (13 + ((σ.1 10 6).toNatClampNeg)) 8 x4) 10 8 ((σ.2 10 8) + 1)) (19 + ((σ.1 10 6).toNatClampNeg)) 1 x8) ((σ.1 10 6).toNatClampNeg)))) (m_X7_get (eb_pJ (eb_pJ (eb_pI σ (13 + ((σ.1 10 6).toNatClampNeg)) 8 x4) 10 8 ((σ.2 10 8) + 1)) (19 + ((σ.1 10 6).toNatClampNeg)) 1 x8) ((σ.1 10 6).toNatClampNeg) 17)) (((eb_pJ (eb_pI σ (13 + ((σ.1 10 6).toNatClampNeg)) 8 x4) 10 8 ((σ.2 10 8) + 1)).2 (19 + ((σ.1 10 6).toNatClampNeg)) 1) + 4) else (if a0 = (-1) then m_X5_settleStay_113  (eb_pJ (eb_pI σ (13 + ((σ.1 10 6).toNatClampNeg)) 8 x4) 10 8 ((σ.2 10 8) + 1)) else (fun (z7 : eb_St) => m_X5_settleStay_113  z7) (m_X5_leave (eb_pJ (eb_pI σ (13 + ((σ.1 10 6).toNatClampNeg)) 8 x4) 10 8 ((σ.2 10 8) + 1)) 2 a0.toInt64)))) ((σ.1 (13 + ((σ.1 10 6).toNatClampNeg)) 8) + 1)) = mm := by rw [qz1]; exact hm
  have hc : eb_M l yX5_isPlace (Cond.code yX5_isPlace cX5_isPlace 2 (some .boolean) :: wsL_law) 0 0 D 33 cy cL ad σ [.long ((σ.1 10 6).toInt64)] (some (.int (eb_b z1))) σ := by rw [qz1]; exact c_X5_isPlace l D cy ad σ ((σ.1 10 6).toInt64)
  refine eb_callS (n := 1) X hw hl.1 (rest := []) hc (eb_goodS wi_13_1 wi_13_2 wi_2_15 wi_13_3) rfl (by decide +kernel) ⟨by decide, by decide⟩ rfl rfl (Nat.le_of_ble_eq_true rfl) dX5_settleStay_5 ⟨by decide, by decide⟩ (st' := [.int (eb_b z1)]) rfl (fun H locs hw => ?_)
  refine lv_if_ne (tgt := 12) hx hb dX5_settleStay_8 (by decide) (fun h2 => ?_) (fun h2 => ?_)
  · have hm := (if_neg h2).symm.trans hm
    refine lv_aload_n hx hb dX5_settleStay_12 rfl (lv_at hl 0 rfl) ?_
    refine eb_get (T := TX5) X hw 10 5 (by decide) ⟨rfl, rfl, rfl⟩ (by decide) (fun _ h => List.mem_cons_of_mem _ (inlX5 _ h)) (List.mem_cons_of_mem _ wi_4_10) (v := .ref (ad 12)) rfl dX5_settleStay_13 ?_
    refine lv_aload_n hx hb dX5_settleStay_16 rfl (lv_at hl 0 rfl) ?_
    refine eb_get (T := TX5) X hw 10 6 (by decide) ⟨rfl, rfl, rfl⟩ (by decide) (fun _ h => List.mem_cons_of_mem _ (inlX5 _ h)) (List.mem_cons_of_mem _ wi_4_11) (v := .int (σ.1 10 6)) rfl dX5_settleStay_17 ?_
    have b3 : (σ.1 10 6).toNatClampNeg < 6 := Nat.not_le.mp (fun q => (show vp_in (σ.1 10 6) 6 from (l_isPlaceI (by rw [← qz1]; exact h2))) (Or.inr q))
    refine eb_aald (n := 6) X hw 12 (by decide) rfl rfl (l_isPlaceI (by rw [← qz1]; exact h2)) (a := 13 + ((σ.1 10 6).toNatClampNeg)) rfl dX5_settleStay_20 ?_
    refine lv_astore_n (lv' := [(2, .ref (ad (13 + ((σ.1 10 6).toNatClampNeg)))), (0, .ref (ad 10)), (1, .int a0)]) hx hb dX5_settleStay_21 rfl hl (by decide) rfl (fun ls hl => ?_)
    refine lv_aload_n hx hb dX5_settleStay_22 rfl (lv_at hl 0 rfl) ?_
    refine lv_dup hx hb dX5_settleStay_23 rfl ?_
    refine eb_get (T := TX2) X hw (13 + ((σ.1 10 6).toNatClampNeg)) 8 (by omega) (cE_i (by omega)) (by decide) (fun _ h => List.mem_cons_of_mem _ (inlX2 _ h)) (List.mem_cons_of_mem _ wi_23_2) (v := .int (σ.1 (13 + ((σ.1 10 6).toNatClampNeg)) 8)) (eb_sI (cE_t (by omega) 8)) dX5_settleStay_24 ?_
    refine lv_iconst (v := 1) hx hb dX5_settleStay_27 (by decide) ?_
    refine lv_iadd hx hb dX5_settleStay_28 ?_
    refine lv_topi (fun x4 ex4 => ?_)
    have hm : (if a0 = 11 then (fun (x8 : Int64) => (fun (z9 : Int64) => (if z9 = 1 then (fun (z12 : Int64) => (fun (z13 : eb_St) => m_X5_settleStay_113  z13) (m_X5_leave (eb_pJ (eb_pJ (eb_pI σ (13 + ((σ.1 10 6).toNatClampNeg)) 8 x4) 10 8 ((σ.2 10 8) + 1)) (19 + ((σ.1 10 6).toNatClampNeg)) 1 x8) 0 z12)) (m_X7_get (eb_pJ (eb_pJ (eb_pI σ (13 + ((σ.1 10 6).toNatClampNeg)) 8 x4) 10 8 ((σ.2 10 8) + 1)) (19 + ((σ.1 10 6).toNatClampNeg)) 1 x8) ((σ.1 10 6).toNatClampNeg) 10) else (fun (z11 : eb_St) => m_X5_settleStay_113  z11) (m_X5_answerEnclave (eb_pJ (eb_pJ (eb_pI σ (13 + ((σ.1 10 6).toNatClampNeg)) 8 x4) 10 8 ((σ.2 10 8) + 1)) (19 + ((σ.1 10 6).toNatClampNeg)) 1 x8) ((σ.1 10 6).toNatClampNeg)))) (m_X7_get (eb_pJ (eb_pJ (eb_pI σ (13 + ((σ.1 10 6).toNatClampNeg)) 8 x4) 10 8 ((σ.2 10 8) + 1)) (19 + ((σ.1 10 6).toNatClampNeg)) 1 x8) ((σ.1 10 6).toNatClampNeg) 17)) (((eb_pJ (eb_pI σ (13 + ((σ.1 10 6).toNatClampNeg)) 8 x4) 10 8 ((σ.2 10 8) + 1)).2 (19 + ((σ.1 10 6).toNatClampNeg)) 1) + 4) else (if a0 = (-1) then m_X5_settleStay_113  (eb_pJ (eb_pI σ (13 + ((σ.1 10 6).toNatClampNeg)) 8 x4) 10 8 ((σ.2 10 8) + 1)) else (fun (z7 : eb_St) => m_X5_settleStay_113  z7) (m_X5_leave (eb_pJ (eb_pI σ (13 + ((σ.1 10 6).toNatClampNeg)) 8 x4) 10 8 ((σ.2 10 8) + 1)) 2 a0.toInt64))) = mm := by rw [ex4]; exact hm
    refine eb_putI (T := TX2) X hw (13 + ((σ.1 10 6).toNatClampNeg)) 8 (by omega) (cE_i (by omega)) (by decide) (cE_t (by omega) 8) (fun _ h => List.mem_cons_of_mem _ (inlX2 _ h)) (List.mem_cons_of_mem _ wi_23_2) tyX2 tyX2_ok nmX2 rfl rfl rfl dX5_settleStay_29 (fun H locs hw => ?_)
    refine lv_aload_n hx hb dX5_settleStay_32 rfl (lv_at hl 1 rfl) ?_
    refine lv_dup hx hb dX5_settleStay_33 rfl ?_
    refine eb_get (T := TX5) X hw 10 8 (by decide) ⟨rfl, rfl, rfl⟩ (by decide) (fun _ h => List.mem_cons_of_mem _ (inlX5 _ h)) (List.mem_cons_of_mem _ wi_23_3) (v := .long (σ.2 10 8)) rfl dX5_settleStay_34 ?_
    refine lv_lconst (v := 1) hx hb dX5_settleStay_37 (by decide) ?_
    refine lv_ladd hx hb dX5_settleStay_38 ?_
    refine eb_putJ (T := TX5) X hw 10 8 (by decide) ⟨rfl, rfl, rfl⟩ (by decide) rfl (fun _ h => List.mem_cons_of_mem _ (inlX5 _ h)) (List.mem_cons_of_mem _ wi_23_3) tyX5 tyX5_ok nmX5 rfl rfl rfl dX5_settleStay_39 (fun H locs hw => ?_)
    refine lv_iload_n hx hb dX5_settleStay_42 rfl (lv_at hl 2 rfl) ?_
    refine lv_bipush (v := 11) hx hb dX5_settleStay_43 (by decide) ?_
    refine lv_icmp_ne (tgt := 101) hx hb dX5_settleStay_45 (by decide) (fun h5 => ?_) (fun h5 => ?_)
    · have hm := (if_neg h5).symm.trans hm
      refine lv_iload_n hx hb dX5_settleStay_101 rfl (lv_at hl 2 rfl) ?_
      refine lv_iconst (v := (-1)) hx hb dX5_settleStay_102 (by decide) ?_
      refine lv_icmp_eq (tgt := 113) hx hb dX5_settleStay_103 (by decide) (fun h6 => ?_) (fun h6 => ?_)
      · have hm := (if_pos h6).symm.trans hm
        exact k_X5_settleStay_113 X   (eb_pJ (eb_pI σ (13 + ((σ.1 10 6).toNatClampNeg)) 8 x4) 10 8 ((σ.2 10 8) + 1)) hm hw (lv_sub hl [1] rfl)
      · have hm := (if_neg h6).symm.trans hm
        refine lv_aload_n hx hb dX5_settleStay_106 rfl (lv_at hl 1 rfl) ?_
        refine lv_iconst (v := 2) hx hb dX5_settleStay_107 (by decide) ?_
        refine lv_iload_n hx hb dX5_settleStay_108 rfl (lv_at hl 2 rfl) ?_
        refine lv_i2l (v := a0.toInt64) hx hb dX5_settleStay_109 rfl ?_
        obtain ⟨z7, qz7⟩ : ∃ t : eb_St, t = m_X5_leave (eb_pJ (eb_pI σ (13 + ((σ.1 10 6).toNatClampNeg)) 8 x4) 10 8 ((σ.2 10 8) + 1)) 2 a0.toInt64 := ⟨_, rfl⟩
        have hm : m_X5_settleStay_113  z7 = mm := by rw [qz7]; exact hm
        have hc : eb_M l yX5_leave (Cond.code yX5_leave cX5_leave 4 none :: wsL_law) 3 76 D 33 cy cL ad (eb_pJ (eb_pI σ (13 + ((σ.1 10 6).toNatClampNeg)) 8 x4) 10 8 ((σ.2 10 8) + 1)) [.ref (ad 10), .int 2, .long a0.toInt64] (none) z7 := by rw [qz7]; exact c_X5_leave l D cy ad (eb_pJ (eb_pI σ (13 + ((σ.1 10 6).toNatClampNeg)) 8 x4) 10 8 ((σ.2 10 8) + 1)) 2 a0.toInt64
        refine eb_callV (n := 2) (as := [.int 2, .long a0.toInt64]) (rest := []) X hw hl.1 10 hc (by decide) ⟨rfl, rfl, rfl⟩ (eb_goodV wi_12_21 wi_12_22 wi_12_23 wi_2_15 wi_13_0) rfl (by decide +kernel) ⟨by decide, by decide⟩ rfl rfl (Nat.le_of_ble_eq_true rfl) dX5_settleStay_110 ⟨by decide, by decide⟩ (st' := []) rfl (fun H locs hw => ?_)
        exact k_X5_settleStay_113 X   z7 hm hw (lv_sub hl [1] rfl)
    · have hm := (if_pos h5).symm.trans hm
      refine lv_aload_n hx hb dX5_settleStay_48 rfl (lv_at hl 0 rfl) ?_
      refine eb_get (T := TX2) X hw (13 + ((σ.1 10 6).toNatClampNeg)) 0 (by omega) (cE_i (by omega)) (by decide) (fun _ h => List.mem_cons_of_mem _ (inlX2 _ h)) (List.mem_cons_of_mem _ wi_14_10) (v := .ref (ad (19 + ((σ.1 10 6).toNatClampNeg)))) (eb_sR (cE_t (by omega) 0) (cE_g (by omega))) dX5_settleStay_49 ?_
      refine lv_dup hx hb dX5_settleStay_52 rfl ?_
      refine eb_get (T := TX7) X hw (19 + ((σ.1 10 6).toNatClampNeg)) 1 (by omega) (cR_i (by omega)) (by decide) (fun _ h => List.mem_cons_of_mem _ (inlX7 _ h)) (List.mem_cons_of_mem _ wi_23_4) (v := .long ((eb_pJ (eb_pI σ (13 + ((σ.1 10 6).toNatClampNeg)) 8 x4) 10 8 ((σ.2 10 8) + 1)).2 (19 + ((σ.1 10 6).toNatClampNeg)) 1)) (eb_sJ (cR_t (by omega) 1)) dX5_settleStay_53 ?_
      refine lv_ldc2 hx hb hown (hts _ (List.mem_cons_of_mem _ wi_23_5)) dX5_settleStay_56 ?_
      refine lv_ladd hx hb dX5_settleStay_59 ?_
      refine lv_topl (fun x8 ex8 => ?_)
      have hm : (fun (z9 : Int64) => (if z9 = 1 then (fun (z12 : Int64) => (fun (z13 : eb_St) => m_X5_settleStay_113  z13) (m_X5_leave (eb_pJ (eb_pJ (eb_pI σ (13 + ((σ.1 10 6).toNatClampNeg)) 8 x4) 10 8 ((σ.2 10 8) + 1)) (19 + ((σ.1 10 6).toNatClampNeg)) 1 x8) 0 z12)) (m_X7_get (eb_pJ (eb_pJ (eb_pI σ (13 + ((σ.1 10 6).toNatClampNeg)) 8 x4) 10 8 ((σ.2 10 8) + 1)) (19 + ((σ.1 10 6).toNatClampNeg)) 1 x8) ((σ.1 10 6).toNatClampNeg) 10) else (fun (z11 : eb_St) => m_X5_settleStay_113  z11) (m_X5_answerEnclave (eb_pJ (eb_pJ (eb_pI σ (13 + ((σ.1 10 6).toNatClampNeg)) 8 x4) 10 8 ((σ.2 10 8) + 1)) (19 + ((σ.1 10 6).toNatClampNeg)) 1 x8) ((σ.1 10 6).toNatClampNeg)))) (m_X7_get (eb_pJ (eb_pJ (eb_pI σ (13 + ((σ.1 10 6).toNatClampNeg)) 8 x4) 10 8 ((σ.2 10 8) + 1)) (19 + ((σ.1 10 6).toNatClampNeg)) 1 x8) ((σ.1 10 6).toNatClampNeg) 17) = mm := by rw [ex8]; exact hm
      refine eb_putJ (T := TX7) X hw (19 + ((σ.1 10 6).toNatClampNeg)) 1 (by omega) (cR_i (by omega)) (by decide) (cR_t (by omega) 1) (fun _ h => List.mem_cons_of_mem _ (inlX7 _ h)) (List.mem_cons_of_mem _ wi_23_4) tyX7 tyX7_ok nmX7 rfl rfl rfl dX5_settleStay_60 (fun H locs hw => ?_)
      refine lv_aload_n hx hb dX5_settleStay_63 rfl (lv_at hl 0 rfl) ?_
      refine eb_get (T := TX2) X hw (13 + ((σ.1 10 6).toNatClampNeg)) 0 (by omega) (cE_i (by omega)) (by decide) (fun _ h => List.mem_cons_of_mem _ (inlX2 _ h)) (List.mem_cons_of_mem _ wi_14_10) (v := .ref (ad (19 + ((σ.1 10 6).toNatClampNeg)))) (eb_sR (cE_t (by omega) 0) (cE_g (by omega))) dX5_settleStay_64 ?_
      refine lv_bipush (v := 17) hx hb dX5_settleStay_67 (by decide) ?_
      obtain ⟨z9, qz9⟩ : ∃ t : Int64, t = m_X7_get (eb_pJ (eb_pJ (eb_pI σ (13 + ((σ.1 10 6).toNatClampNeg)) 8 x4) 10 8 ((σ.2 10 8) + 1)) (19 + ((σ.1 10 6).toNatClampNeg)) 1 x8) ((σ.1 10 6).toNatClampNeg) 17 := ⟨_, rfl⟩
      have hm : (if z9 = 1 then (fun (z12 : Int64) => (fun (z13 : eb_St) => m_X5_settleStay_113  z13) (m_X5_leave (eb_pJ (eb_pJ (eb_pI σ (13 + ((σ.1 10 6).toNatClampNeg)) 8 x4) 10 8 ((σ.2 10 8) + 1)) (19 + ((σ.1 10 6).toNatClampNeg)) 1 x8) 0 z12)) (m_X7_get (eb_pJ (eb_pJ (eb_pI σ (13 + ((σ.1 10 6).toNatClampNeg)) 8 x4) 10 8 ((σ.2 10 8) + 1)) (19 + ((σ.1 10 6).toNatClampNeg)) 1 x8) ((σ.1 10 6).toNatClampNeg) 10) else (fun (z11 : eb_St) => m_X5_settleStay_113  z11) (m_X5_answerEnclave (eb_pJ (eb_pJ (eb_pI σ (13 + ((σ.1 10 6).toNatClampNeg)) 8 x4) 10 8 ((σ.2 10 8) + 1)) (19 + ((σ.1 10 6).toNatClampNeg)) 1 x8) ((σ.1 10 6).toNatClampNeg))) = mm := by rw [qz9]; exact hm
      have hc : eb_M l yX7_get (Cond.code yX7_get cX7_get 2 (some .long) :: wsL_law) 0 0 D 33 cy cL ad (eb_pJ (eb_pJ (eb_pI σ (13 + ((σ.1 10 6).toNatClampNeg)) 8 x4) 10 8 ((σ.2 10 8) + 1)) (19 + ((σ.1 10 6).toNatClampNeg)) 1 x8) [.ref (ad (19 + ((σ.1 10 6).toNatClampNeg))), .int 17] (some (.long z9)) (eb_pJ (eb_pJ (eb_pI σ (13 + ((σ.1 10 6).toNatClampNeg)) 8 x4) 10 8 ((σ.2 10 8) + 1)) (19 + ((σ.1 10 6).toNatClampNeg)) 1 x8) := by rw [qz9]; exact c_X7_get l D cy ad (eb_pJ (eb_pJ (eb_pI σ (13 + ((σ.1 10 6).toNatClampNeg)) 8 x4) 10 8 ((σ.2 10 8) + 1)) (19 + ((σ.1 10 6).toNatClampNeg)) 1 x8) ((σ.1 10 6).toNatClampNeg) 17 (by omega)
      refine eb_callV (n := 1) (as := [.int 17]) (rest := []) X hw hl.1 (19 + ((σ.1 10 6).toNatClampNeg)) hc (by omega) (cR_i (by omega)) (eb_goodV wi_23_7 wi_16_5 wi_16_6 wi_2_7 wi_16_7) rfl (by decide +kernel) ⟨by decide, by decide⟩ rfl rfl (Nat.le_of_ble_eq_true rfl) dX5_settleStay_69 ⟨by decide, by decide⟩ (st' := [.long z9]) rfl (fun H locs hw => ?_)
      refine lv_lconst (v := 1) hx hb dX5_settleStay_72 (by decide) ?_
      refine eb_lif_ne (tgt := 94) hx hb dX5_settleStay_73 dX5_settleStay_74 (by decide) (fun h10 => ?_) (fun h10 => ?_)
      · have hm := (if_neg h10).symm.trans hm
        refine lv_aload_n hx hb dX5_settleStay_94 rfl (lv_at hl 0 rfl) ?_
        obtain ⟨z11, qz11⟩ : ∃ t : eb_St, t = m_X5_answerEnclave (eb_pJ (eb_pJ (eb_pI σ (13 + ((σ.1 10 6).toNatClampNeg)) 8 x4) 10 8 ((σ.2 10 8) + 1)) (19 + ((σ.1 10 6).toNatClampNeg)) 1 x8) ((σ.1 10 6).toNatClampNeg) := ⟨_, rfl⟩
        have hm : m_X5_settleStay_113  z11 = mm := by rw [qz11]; exact hm
        have hc : eb_M l yX5_answerEnclave (Cond.code yX5_answerEnclave cX5_answerEnclave 4 none :: wsL_law) 1 23 D 33 cy cL ad (eb_pJ (eb_pJ (eb_pI σ (13 + ((σ.1 10 6).toNatClampNeg)) 8 x4) 10 8 ((σ.2 10 8) + 1)) (19 + ((σ.1 10 6).toNatClampNeg)) 1 x8) [.ref (ad (13 + ((σ.1 10 6).toNatClampNeg)))] (none) z11 := by rw [qz11]; exact c_X5_answerEnclave l D cy ad (eb_pJ (eb_pJ (eb_pI σ (13 + ((σ.1 10 6).toNatClampNeg)) 8 x4) 10 8 ((σ.2 10 8) + 1)) (19 + ((σ.1 10 6).toNatClampNeg)) 1 x8) ((σ.1 10 6).toNatClampNeg) (by omega)
        refine eb_callS (n := 1) X hw hl.1 (rest := []) hc (eb_goodS wi_23_8 wi_23_9 wi_2_15 wi_23_10) rfl (by decide +kernel) ⟨by decide, by decide⟩ rfl rfl (Nat.le_of_ble_eq_true rfl) dX5_settleStay_95 ⟨by decide, by decide⟩ (st' := []) rfl (fun H locs hw => ?_)
        refine lv_goto (tgt := 113) hx hb dX5_settleStay_98 (by decide) ?_
        exact k_X5_settleStay_113 X   z11 hm hw (lv_sub hl [1] rfl)
      · have hm := (if_pos h10).symm.trans hm
        refine lv_aload_n hx hb dX5_settleStay_77 rfl (lv_at hl 1 rfl) ?_
        refine lv_iconst (v := 0) hx hb dX5_settleStay_78 (by decide) ?_
        refine lv_aload_n hx hb dX5_settleStay_79 rfl (lv_at hl 0 rfl) ?_
        refine eb_get (T := TX2) X hw (13 + ((σ.1 10 6).toNatClampNeg)) 0 (by omega) (cE_i (by omega)) (by decide) (fun _ h => List.mem_cons_of_mem _ (inlX2 _ h)) (List.mem_cons_of_mem _ wi_14_10) (v := .ref (ad (19 + ((σ.1 10 6).toNatClampNeg)))) (eb_sR (cE_t (by omega) 0) (cE_g (by omega))) dX5_settleStay_80 ?_
        refine lv_bipush (v := 10) hx hb dX5_settleStay_83 (by decide) ?_
        obtain ⟨z12, qz12⟩ : ∃ t : Int64, t = m_X7_get (eb_pJ (eb_pJ (eb_pI σ (13 + ((σ.1 10 6).toNatClampNeg)) 8 x4) 10 8 ((σ.2 10 8) + 1)) (19 + ((σ.1 10 6).toNatClampNeg)) 1 x8) ((σ.1 10 6).toNatClampNeg) 10 := ⟨_, rfl⟩
        have hm : (fun (z13 : eb_St) => m_X5_settleStay_113  z13) (m_X5_leave (eb_pJ (eb_pJ (eb_pI σ (13 + ((σ.1 10 6).toNatClampNeg)) 8 x4) 10 8 ((σ.2 10 8) + 1)) (19 + ((σ.1 10 6).toNatClampNeg)) 1 x8) 0 z12) = mm := by rw [qz12]; exact hm
        have hc : eb_M l yX7_get (Cond.code yX7_get cX7_get 2 (some .long) :: wsL_law) 0 0 D 33 cy cL ad (eb_pJ (eb_pJ (eb_pI σ (13 + ((σ.1 10 6).toNatClampNeg)) 8 x4) 10 8 ((σ.2 10 8) + 1)) (19 + ((σ.1 10 6).toNatClampNeg)) 1 x8) [.ref (ad (19 + ((σ.1 10 6).toNatClampNeg))), .int 10] (some (.long z12)) (eb_pJ (eb_pJ (eb_pI σ (13 + ((σ.1 10 6).toNatClampNeg)) 8 x4) 10 8 ((σ.2 10 8) + 1)) (19 + ((σ.1 10 6).toNatClampNeg)) 1 x8) := by rw [qz12]; exact c_X7_get l D cy ad (eb_pJ (eb_pJ (eb_pI σ (13 + ((σ.1 10 6).toNatClampNeg)) 8 x4) 10 8 ((σ.2 10 8) + 1)) (19 + ((σ.1 10 6).toNatClampNeg)) 1 x8) ((σ.1 10 6).toNatClampNeg) 10 (by omega)
        refine eb_callV (n := 1) (as := [.int 10]) (rest := [.int 0, .ref (ad 10)]) X hw hl.1 (19 + ((σ.1 10 6).toNatClampNeg)) hc (by omega) (cR_i (by omega)) (eb_goodV wi_23_7 wi_16_5 wi_16_6 wi_2_7 wi_16_7) rfl (by decide +kernel) ⟨by decide, by decide⟩ rfl rfl (Nat.le_of_ble_eq_true rfl) dX5_settleStay_85 ⟨by decide, by decide⟩ (st' := [.long z12, .int 0, .ref (ad 10)]) rfl (fun H locs hw => ?_)
        obtain ⟨z13, qz13⟩ : ∃ t : eb_St, t = m_X5_leave (eb_pJ (eb_pJ (eb_pI σ (13 + ((σ.1 10 6).toNatClampNeg)) 8 x4) 10 8 ((σ.2 10 8) + 1)) (19 + ((σ.1 10 6).toNatClampNeg)) 1 x8) 0 z12 := ⟨_, rfl⟩
        have hm : m_X5_settleStay_113  z13 = mm := by rw [qz13]; exact hm
        have hc : eb_M l yX5_leave (Cond.code yX5_leave cX5_leave 4 none :: wsL_law) 3 76 D 33 cy cL ad (eb_pJ (eb_pJ (eb_pI σ (13 + ((σ.1 10 6).toNatClampNeg)) 8 x4) 10 8 ((σ.2 10 8) + 1)) (19 + ((σ.1 10 6).toNatClampNeg)) 1 x8) [.ref (ad 10), .int 0, .long z12] (none) z13 := by rw [qz13]; exact c_X5_leave l D cy ad (eb_pJ (eb_pJ (eb_pI σ (13 + ((σ.1 10 6).toNatClampNeg)) 8 x4) 10 8 ((σ.2 10 8) + 1)) (19 + ((σ.1 10 6).toNatClampNeg)) 1 x8) 0 z12
        refine eb_callV (n := 2) (as := [.int 0, .long z12]) (rest := []) X hw hl.1 10 hc (by decide) ⟨rfl, rfl, rfl⟩ (eb_goodV wi_12_21 wi_12_22 wi_12_23 wi_2_15 wi_13_0) rfl (by decide +kernel) ⟨by decide, by decide⟩ rfl rfl (Nat.le_of_ble_eq_true rfl) dX5_settleStay_88 ⟨by decide, by decide⟩ (st' := []) rfl (fun H locs hw => ?_)
        refine lv_goto (tgt := 113) hx hb dX5_settleStay_91 (by decide) ?_
        exact k_X5_settleStay_113 X   z13 hm hw (lv_sub hl [1] rfl)
  · have hm := (if_pos h2).symm.trans hm
    subst hm
    exact eb_vret X hw rfl rfl dX5_settleStay_11
