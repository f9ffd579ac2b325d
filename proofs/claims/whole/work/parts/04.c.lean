def m_X10_spans_in : Nat → Int64 → Int64 → Int64
  | 0, v5, _ => v5
  | n + 1, v5, v7 => if (v7 &&& 1) = 1 then m_X10_spans_in n (v5 * 2) (eb_lshr v7 1) else v5
def eb_sp (p l : Int64) : Prop := 0 < p.toInt ∧ 0 ≤ l.toInt ∧ p.toInt * (l.toInt + 1) ≤ 144115188075855872
theorem eb_sp0 {a : Int64} (h : 0 ≤ a.toInt ∧ a.toInt < 18014398509481984) : eb_sp 8 a := by
  have e : (8 : Int64).toInt = 8 := by decide
  refine ⟨by rw [e]; omega, h.1, ?_⟩
  rw [e]; omega
theorem eb_shrL (a s : Int64) (k : Nat) (hs : (s.toBitVec.smod 64).toNat = k) : (a >>> s).toInt = a.toInt >>> k := by
  show (a.toBitVec.sshiftRight (s.toBitVec.smod 64).toNat).toInt = _
  rw [hs, BitVec.toInt_sshiftRight]
  rfl
theorem eb_lshr1 (a : Int64) : (eb_lshr a 1).toInt = a.toInt / 2 := by
  unfold eb_lshr
  rw [show ((1 : Int32).toInt64 &&& 63) = 1 by decide, eb_shrL a 1 1 (by decide), Int.shiftRight_eq_div_pow]
  rfl
theorem eb_odd {a : Int64} (h0 : 0 ≤ a.toInt) (h : (a &&& 1) = 1) : a.toInt % 2 = 1 := by
  obtain ⟨k, hk, rfl⟩ := pk_lOf (x := a) (by rw [Int64.lt_iff_toInt_lt, show (0 : Int64).toInt = 0 by decide]; omega)
  have e : lN k &&& 1 = lN (k % 2) := by
    apply Int64.toBitVec_inj.mp
    show BitVec.ofNat 64 k &&& 1#64 = BitVec.ofNat 64 (k % 2)
    apply BitVec.eq_of_toNat_eq
    rw [BitVec.toNat_and, BitVec.toNat_ofNat, BitVec.toNat_ofNat, BitVec.toNat_ofNat, show 1 % 2 ^ 64 = 1 by decide, Nat.and_one_is_mod]
    omega
  rw [e, show (1 : Int64) = lN 1 by decide, pk_lEQ (by omega) (by omega)] at h
  rw [pk_lT hk]
  omega
theorem eb_sp1 {p l : Int64} (h : eb_sp p l) (h1 : (l &&& 1) = 1) : eb_sp (p * 2) (eb_lshr l 1) ∧ (eb_lshr l 1).toInt.toNat < l.toInt.toNat := by
  obtain ⟨a, b, d⟩ := h
  have ho := eb_odd b h1
  obtain ⟨q, hq⟩ : ∃ q : Int, l.toInt = 2 * q + 1 := ⟨l.toInt / 2, by omega⟩
  have hq0 : 0 ≤ q := by omega
  have e2 : (2 : Int64).toInt = 2 := by decide
  have em : p.toInt * (l.toInt + 1) = 2 * p.toInt * (q + 1) := by
    rw [hq, show 2 * q + 1 + 1 = 2 * (q + 1) by omega, ← Int.mul_assoc, Int.mul_comm p.toInt 2]
  rw [em] at d
  have hb : 2 * p.toInt ≤ 2 * p.toInt * (q + 1) := by
    have : 2 * p.toInt * 1 ≤ 2 * p.toInt * (q + 1) := Int.mul_le_mul_of_nonneg_left (by omega) (by omega)
    omega
  have ep : (p * 2).toInt = 2 * p.toInt := by
    rw [Int64.toInt_mul, e2]
    rw [Int.bmod_eq_of_le (by omega) (by omega)]; omega
  have el : (eb_lshr l 1).toInt = q := by rw [eb_lshr1]; omega
  refine ⟨⟨by rw [ep]; omega, by rw [el]; exact hq0, by rw [ep, el]; exact d⟩, by rw [el]; omega⟩
theorem l_X10_spans_in : ∀ (n : Nat) (p l : Int64), eb_sp p l → ¬ m_X10_spans_in n p l = 0 := by
  intro n
  induction n with
  | zero =>
    intro p l h q
    have h0 := h.1
    rw [show p = 0 from q] at h0
    exact absurd h0 (by decide)
  | succ n ih =>
    intro p l h
    unfold m_X10_spans_in
    by_cases h1 : (l &&& 1) = 1
    · rw [if_pos h1]; exact ih _ _ (eb_sp1 h h1).1
    · rw [if_neg h1]
      intro q
      have h0 := h.1
      rw [q] at h0
      exact absurd h0 (by decide)
set_option maxHeartbeats 4000000 in
set_option maxRecDepth 100000 in
theorem kk_X10_spans_129 {p : Program} {l : Launch} {e : Env} {s : State} {m : MethodId} {args : Array Value} {below : List Frame} {meth : Method} {c : Code} {A : Nat → Prop} {D : va_G} {cy : Nat → ClassId} {ad : Nat → Nat} {R : Room} {Q : State → Prop} {cells slots : Nat} (X : eb_X p s m args meth c cX10_spans 10 RX10 (Cond.code yX10_spans cX10_spans 10 none :: wsL_law) none D cy A) {σ : eb_St} (v1 : Int32) (v3 : Int64) : ∀ (n : Nat) (v5 v7 : Int64) (_ : eb_sp v5 v7) (_ : v7.toInt.toNat < n) {H : Heap} {locs : List Loc} {ls : Array Slot} (_ : eb_H D 18 cy rL ad A s.heap σ H locs) (_ : lv_has ls 10 [(0, .ref (ad 0)), (1, .int v1), (3, .long v3), (5, .long v5), (7, .long v7)]) (_ : ∀ ls : Array Slot, lv_has ls 10 [(0, .ref (ad 0)), (1, .int v1), (3, .long v3), (5, .long (m_X10_spans_in n v5 v7))] → W p l e R s m args below meth c H locs cells slots Q (F0 m 155 ls [])), W p l e R s m args below meth c H locs cells slots Q (F0 m 129 ls []) := by
  have hx := X.1.1
  have hb := X.1.2.1
  have hown := X.1.2.2.2.1
  have hts := X.1.2.2.2.2
  intro n
  induction n with
  | zero => intro v5 v7 _ hn; exact absurd hn (Nat.not_lt_zero _)
  | succ n ih =>
    intro v5 v7 hs hn H locs ls hw hl kk
    refine lv_lload hx hb dX10_spans_129 (lv_at hl 4 rfl) ?_
    refine lv_lconst (v := 1) hx hb dX10_spans_131 (by decide) ?_
    refine lv_land hx hb dX10_spans_132 ?_
    refine lv_lconst (v := 1) hx hb dX10_spans_133 (by decide) ?_
    refine eb_lif_ne (tgt := 155) hx hb dX10_spans_134 dX10_spans_135 (by decide) (fun h => ?_) (fun h => ?_)
    · refine kk ls ?_
      have q : m_X10_spans_in (n + 1) v5 v7 = v5 := if_neg h
      rw [q]
      exact lv_sub hl [0, 1, 2, 3] rfl
    · refine lv_lload hx hb dX10_spans_138 (lv_at hl 3 rfl) ?_
      refine lv_ldc2 hx hb hown (hts _ (List.mem_cons_of_mem _ wi_31_12)) dX10_spans_140 ?_
      refine lv_lmul hx hb dX10_spans_143 ?_
      refine lv_lstore (lv' := [(5, .long (v5 * 2)), (0, .ref (ad 0)), (1, .int v1), (3, .long v3), (7, .long v7)]) hx hb dX10_spans_144 hl (by decide) rfl (fun ls hl => ?_)
      refine lv_lload hx hb dX10_spans_146 (lv_at hl 4 rfl) ?_
      refine lv_iconst (v := 1) hx hb dX10_spans_148 (by decide) ?_
      refine lv_lshr (v := eb_lshr v7 1) hx hb dX10_spans_149 rfl ?_
      refine lv_lstore (lv' := [(7, .long (eb_lshr v7 1)), (5, .long (v5 * 2)), (0, .ref (ad 0)), (1, .int v1), (3, .long v3)]) hx hb dX10_spans_150 hl (by decide) rfl (fun ls hl => ?_)
      refine lv_goto (tgt := 129) hx hb dX10_spans_152 (by decide) ?_
      have q : m_X10_spans_in (n + 1) v5 v7 = m_X10_spans_in n (v5 * 2) (eb_lshr v7 1) := if_pos h
      rw [q] at kk
      exact ih (v5 * 2) (eb_lshr v7 1) (eb_sp1 hs h).1 (by have := (eb_sp1 hs h).2; omega) hw (lv_sub hl [2, 3, 4, 1, 0] rfl) kk
def m_X10_spans_2  : Nat → eb_St → Int32 → eb_St
  | 0, σ, _ => σ
  | n + 1, σ, v1 => (if (16 : Int32) ≤ v1 then eb_pI σ 0 35 1 else (fun (z2 : Int32) => (fun (x3 : Int32) => (fun (z4 : Int64) => (if x3 = 1 then (if v1 = 0 then (fun (x18 : Int32) => m_X10_spans_2  n (eb_pJ (eb_pJ (eb_pJ (eb_pJ σ 15 v1.toNatClampNeg 0) 16 v1.toNatClampNeg 0) 15 v1.toNatClampNeg 0) 16 v1.toNatClampNeg (z4 * 4)) x18) (v1 + 1) else (fun (z16 : Int64) => (fun (x17 : Int32) => m_X10_spans_2  n (eb_pJ (eb_pJ (eb_pJ (eb_pJ σ 15 v1.toNatClampNeg 0) 16 v1.toNatClampNeg 0) 15 v1.toNatClampNeg (z16 * 4)) 16 v1.toNatClampNeg (z4 * 4)) x17) (v1 + 1)) (m_X10_addressOf (eb_pJ (eb_pJ σ 15 v1.toNatClampNeg 0) 16 v1.toNatClampNeg 0) (v1 - 1))) else (if x3 = 2 then (fun (x14 : Int32) => m_X10_spans_2  n (eb_pJ (eb_pJ (eb_pJ (eb_pJ σ 15 v1.toNatClampNeg 0) 16 v1.toNatClampNeg 0) 15 v1.toNatClampNeg (z4 * 4)) 16 v1.toNatClampNeg ((z4 * 4) + 4)) x14) (v1 + 1) else (if x3 = 3 then (fun (z9 : Int64) => (if z4 = 18014398509481983 then (fun (x13 : Int32) => m_X10_spans_2  n (eb_pJ (eb_pJ (eb_pJ (eb_pJ σ 15 v1.toNatClampNeg 0) 16 v1.toNatClampNeg 0) 15 v1.toNatClampNeg 0) 16 v1.toNatClampNeg 9223372036854775807) x13) (v1 + 1) else (fun (x11 : Int64) => (fun (x12 : Int32) => m_X10_spans_2  n (eb_pJ (eb_pJ (eb_pJ (eb_pJ σ 15 v1.toNatClampNeg 0) 16 v1.toNatClampNeg 0) 15 v1.toNatClampNeg (((z4 * 4) / z9) * z9)) 16 v1.toNatClampNeg x11) x12) (v1 + 1)) (((eb_pJ (eb_pJ (eb_pJ σ 15 v1.toNatClampNeg 0) 16 v1.toNatClampNeg 0) 15 v1.toNatClampNeg (((z4 * 4) / z9) * z9)).2 15 v1.toNatClampNeg) + z9))) (m_X10_spans_in (z4.toInt.toNat + 1) 8 z4) else (fun (x8 : Int32) => m_X10_spans_2  n (eb_pJ (eb_pJ σ 15 v1.toNatClampNeg 0) 16 v1.toNatClampNeg 0) x8) (v1 + 1))))) (m_X10_addressOf σ v1)) ((z2 >>> (3 &&& 31)) &&& 3)) (m_X10_byteOf σ v1))
def m_X10_spans (σ : eb_St)  : eb_St := m_X10_spans_2  17 σ 0
theorem J_X10_spans_2 : ∀ (n : Nat) (σ : eb_St) (v1 : Int32) {mm : eb_St} (_ : (m_X10_spans_2  n σ v1) = mm) (hj_ : rJ σ) (i0_ : 0 ≤ v1.toInt) (hn : ((16 : Int32).toInt - v1.toInt).toNat < n), rJ mm := by
  intro n
  induction n with
  | zero => intro σ v1 mm hm hj_ i0_ hn; exact absurd hn (Nat.not_lt_zero _)
  | succ n ih =>
    intro σ v1 mm hm hj_ i0_ hn
    have hm : (if (16 : Int32) ≤ v1 then eb_pI σ 0 35 1 else (fun (z2 : Int32) => (fun (x3 : Int32) => (fun (z4 : Int64) => (if x3 = 1 then (if v1 = 0 then (fun (x18 : Int32) => m_X10_spans_2  n (eb_pJ (eb_pJ (eb_pJ (eb_pJ σ 15 v1.toNatClampNeg 0) 16 v1.toNatClampNeg 0) 15 v1.toNatClampNeg 0) 16 v1.toNatClampNeg (z4 * 4)) x18) (v1 + 1) else (fun (z16 : Int64) => (fun (x17 : Int32) => m_X10_spans_2  n (eb_pJ (eb_pJ (eb_pJ (eb_pJ σ 15 v1.toNatClampNeg 0) 16 v1.toNatClampNeg 0) 15 v1.toNatClampNeg (z16 * 4)) 16 v1.toNatClampNeg (z4 * 4)) x17) (v1 + 1)) (m_X10_addressOf (eb_pJ (eb_pJ σ 15 v1.toNatClampNeg 0) 16 v1.toNatClampNeg 0) (v1 - 1))) else (if x3 = 2 then (fun (x14 : Int32) => m_X10_spans_2  n (eb_pJ (eb_pJ (eb_pJ (eb_pJ σ 15 v1.toNatClampNeg 0) 16 v1.toNatClampNeg 0) 15 v1.toNatClampNeg (z4 * 4)) 16 v1.toNatClampNeg ((z4 * 4) + 4)) x14) (v1 + 1) else (if x3 = 3 then (fun (z9 : Int64) => (if z4 = 18014398509481983 then (fun (x13 : Int32) => m_X10_spans_2  n (eb_pJ (eb_pJ (eb_pJ (eb_pJ σ 15 v1.toNatClampNeg 0) 16 v1.toNatClampNeg 0) 15 v1.toNatClampNeg 0) 16 v1.toNatClampNeg 9223372036854775807) x13) (v1 + 1) else (fun (x11 : Int64) => (fun (x12 : Int32) => m_X10_spans_2  n (eb_pJ (eb_pJ (eb_pJ (eb_pJ σ 15 v1.toNatClampNeg 0) 16 v1.toNatClampNeg 0) 15 v1.toNatClampNeg (((z4 * 4) / z9) * z9)) 16 v1.toNatClampNeg x11) x12) (v1 + 1)) (((eb_pJ (eb_pJ (eb_pJ σ 15 v1.toNatClampNeg 0) 16 v1.toNatClampNeg 0) 15 v1.toNatClampNeg (((z4 * 4) / z9) * z9)).2 15 v1.toNatClampNeg) + z9))) (m_X10_spans_in (z4.toInt.toNat + 1) 8 z4) else (fun (x8 : Int32) => m_X10_spans_2  n (eb_pJ (eb_pJ σ 15 v1.toNatClampNeg 0) 16 v1.toNatClampNeg 0) x8) (v1 + 1))))) (m_X10_addressOf σ v1)) ((z2 >>> (3 &&& 31)) &&& 3)) (m_X10_byteOf σ v1)) = mm := hm
    refine eb_em (c := (16 : Int32) ≤ v1) (fun h1 => ?_) (fun h1 => ?_)
    · have hm := (if_pos h1).symm.trans hm
      subst hm
      exact hj_
    · have hm := (if_neg h1).symm.trans hm
      obtain ⟨z2, qz2⟩ : ∃ t : Int32, t = m_X10_byteOf σ v1 := ⟨_, rfl⟩
      have hm : (fun (x3 : Int32) => (fun (z4 : Int64) => (if x3 = 1 then (if v1 = 0 then (fun (x18 : Int32) => m_X10_spans_2  n (eb_pJ (eb_pJ (eb_pJ (eb_pJ σ 15 v1.toNatClampNeg 0) 16 v1.toNatClampNeg 0) 15 v1.toNatClampNeg 0) 16 v1.toNatClampNeg (z4 * 4)) x18) (v1 + 1) else (fun (z16 : Int64) => (fun (x17 : Int32) => m_X10_spans_2  n (eb_pJ (eb_pJ (eb_pJ (eb_pJ σ 15 v1.toNatClampNeg 0) 16 v1.toNatClampNeg 0) 15 v1.toNatClampNeg (z16 * 4)) 16 v1.toNatClampNeg (z4 * 4)) x17) (v1 + 1)) (m_X10_addressOf (eb_pJ (eb_pJ σ 15 v1.toNatClampNeg 0) 16 v1.toNatClampNeg 0) (v1 - 1))) else (if x3 = 2 then (fun (x14 : Int32) => m_X10_spans_2  n (eb_pJ (eb_pJ (eb_pJ (eb_pJ σ 15 v1.toNatClampNeg 0) 16 v1.toNatClampNeg 0) 15 v1.toNatClampNeg (z4 * 4)) 16 v1.toNatClampNeg ((z4 * 4) + 4)) x14) (v1 + 1) else (if x3 = 3 then (fun (z9 : Int64) => (if z4 = 18014398509481983 then (fun (x13 : Int32) => m_X10_spans_2  n (eb_pJ (eb_pJ (eb_pJ (eb_pJ σ 15 v1.toNatClampNeg 0) 16 v1.toNatClampNeg 0) 15 v1.toNatClampNeg 0) 16 v1.toNatClampNeg 9223372036854775807) x13) (v1 + 1) else (fun (x11 : Int64) => (fun (x12 : Int32) => m_X10_spans_2  n (eb_pJ (eb_pJ (eb_pJ (eb_pJ σ 15 v1.toNatClampNeg 0) 16 v1.toNatClampNeg 0) 15 v1.toNatClampNeg (((z4 * 4) / z9) * z9)) 16 v1.toNatClampNeg x11) x12) (v1 + 1)) (((eb_pJ (eb_pJ (eb_pJ σ 15 v1.toNatClampNeg 0) 16 v1.toNatClampNeg 0) 15 v1.toNatClampNeg (((z4 * 4) / z9) * z9)).2 15 v1.toNatClampNeg) + z9))) (m_X10_spans_in (z4.toInt.toNat + 1) 8 z4) else (fun (x8 : Int32) => m_X10_spans_2  n (eb_pJ (eb_pJ σ 15 v1.toNatClampNeg 0) 16 v1.toNatClampNeg 0) x8) (v1 + 1))))) (m_X10_addressOf σ v1)) ((z2 >>> (3 &&& 31)) &&& 3) = mm := by rw [qz2]; exact hm
      obtain ⟨x3, ex3⟩ : ∃ z : Int32, z = (z2 >>> (3 &&& 31)) &&& 3 := ⟨_, rfl⟩
      have hm : (fun (z4 : Int64) => (if x3 = 1 then (if v1 = 0 then (fun (x18 : Int32) => m_X10_spans_2  n (eb_pJ (eb_pJ (eb_pJ (eb_pJ σ 15 v1.toNatClampNeg 0) 16 v1.toNatClampNeg 0) 15 v1.toNatClampNeg 0) 16 v1.toNatClampNeg (z4 * 4)) x18) (v1 + 1) else (fun (z16 : Int64) => (fun (x17 : Int32) => m_X10_spans_2  n (eb_pJ (eb_pJ (eb_pJ (eb_pJ σ 15 v1.toNatClampNeg 0) 16 v1.toNatClampNeg 0) 15 v1.toNatClampNeg (z16 * 4)) 16 v1.toNatClampNeg (z4 * 4)) x17) (v1 + 1)) (m_X10_addressOf (eb_pJ (eb_pJ σ 15 v1.toNatClampNeg 0) 16 v1.toNatClampNeg 0) (v1 - 1))) else (if x3 = 2 then (fun (x14 : Int32) => m_X10_spans_2  n (eb_pJ (eb_pJ (eb_pJ (eb_pJ σ 15 v1.toNatClampNeg 0) 16 v1.toNatClampNeg 0) 15 v1.toNatClampNeg (z4 * 4)) 16 v1.toNatClampNeg ((z4 * 4) + 4)) x14) (v1 + 1) else (if x3 = 3 then (fun (z9 : Int64) => (if z4 = 18014398509481983 then (fun (x13 : Int32) => m_X10_spans_2  n (eb_pJ (eb_pJ (eb_pJ (eb_pJ σ 15 v1.toNatClampNeg 0) 16 v1.toNatClampNeg 0) 15 v1.toNatClampNeg 0) 16 v1.toNatClampNeg 9223372036854775807) x13) (v1 + 1) else (fun (x11 : Int64) => (fun (x12 : Int32) => m_X10_spans_2  n (eb_pJ (eb_pJ (eb_pJ (eb_pJ σ 15 v1.toNatClampNeg 0) 16 v1.toNatClampNeg 0) 15 v1.toNatClampNeg (((z4 * 4) / z9) * z9)) 16 v1.toNatClampNeg x11) x12) (v1 + 1)) (((eb_pJ (eb_pJ (eb_pJ σ 15 v1.toNatClampNeg 0) 16 v1.toNatClampNeg 0) 15 v1.toNatClampNeg (((z4 * 4) / z9) * z9)).2 15 v1.toNatClampNeg) + z9))) (m_X10_spans_in (z4.toInt.toNat + 1) 8 z4) else (fun (x8 : Int32) => m_X10_spans_2  n (eb_pJ (eb_pJ σ 15 v1.toNatClampNeg 0) 16 v1.toNatClampNeg 0) x8) (v1 + 1))))) (m_X10_addressOf σ v1) = mm := by rw [ex3]; exact hm
      obtain ⟨z4, qz4⟩ : ∃ t : Int64, t = m_X10_addressOf σ v1 := ⟨_, rfl⟩
      have hm : (if x3 = 1 then (if v1 = 0 then (fun (x18 : Int32) => m_X10_spans_2  n (eb_pJ (eb_pJ (eb_pJ (eb_pJ σ 15 v1.toNatClampNeg 0) 16 v1.toNatClampNeg 0) 15 v1.toNatClampNeg 0) 16 v1.toNatClampNeg (z4 * 4)) x18) (v1 + 1) else (fun (z16 : Int64) => (fun (x17 : Int32) => m_X10_spans_2  n (eb_pJ (eb_pJ (eb_pJ (eb_pJ σ 15 v1.toNatClampNeg 0) 16 v1.toNatClampNeg 0) 15 v1.toNatClampNeg (z16 * 4)) 16 v1.toNatClampNeg (z4 * 4)) x17) (v1 + 1)) (m_X10_addressOf (eb_pJ (eb_pJ σ 15 v1.toNatClampNeg 0) 16 v1.toNatClampNeg 0) (v1 - 1))) else (if x3 = 2 then (fun (x14 : Int32) => m_X10_spans_2  n (eb_pJ (eb_pJ (eb_pJ (eb_pJ σ 15 v1.toNatClampNeg 0) 16 v1.toNatClampNeg 0) 15 v1.toNatClampNeg (z4 * 4)) 16 v1.toNatClampNeg ((z4 * 4) + 4)) x14) (v1 + 1) else (if x3 = 3 then (fun (z9 : Int64) => (if z4 = 18014398509481983 then (fun (x13 : Int32) => m_X10_spans_2  n (eb_pJ (eb_pJ (eb_pJ (eb_pJ σ 15 v1.toNatClampNeg 0) 16 v1.toNatClampNeg 0) 15 v1.toNatClampNeg 0) 16 v1.toNatClampNeg 9223372036854775807) x13) (v1 + 1) else (fun (x11 : Int64) => (fun (x12 : Int32) => m_X10_spans_2  n (eb_pJ (eb_pJ (eb_pJ (eb_pJ σ 15 v1.toNatClampNeg 0) 16 v1.toNatClampNeg 0) 15 v1.toNatClampNeg (((z4 * 4) / z9) * z9)) 16 v1.toNatClampNeg x11) x12) (v1 + 1)) (((eb_pJ (eb_pJ (eb_pJ σ 15 v1.toNatClampNeg 0) 16 v1.toNatClampNeg 0) 15 v1.toNatClampNeg (((z4 * 4) / z9) * z9)).2 15 v1.toNatClampNeg) + z9))) (m_X10_spans_in (z4.toInt.toNat + 1) 8 z4) else (fun (x8 : Int32) => m_X10_spans_2  n (eb_pJ (eb_pJ σ 15 v1.toNatClampNeg 0) 16 v1.toNatClampNeg 0) x8) (v1 + 1)))) = mm := by rw [qz4]; exact hm
      refine eb_emn (c := x3 = 1) (fun h5 => ?_) (fun h5 => ?_)
      · have hm := (if_neg h5).symm.trans hm
        refine eb_emn (c := x3 = 2) (fun h6 => ?_) (fun h6 => ?_)
        · have hm := (if_neg h6).symm.trans hm
          refine eb_emn (c := x3 = 3) (fun h7 => ?_) (fun h7 => ?_)
          · have hm := (if_neg h7).symm.trans hm
            obtain ⟨x8, ex8⟩ : ∃ z : Int32, z = v1 + 1 := ⟨_, rfl⟩
            have hm : m_X10_spans_2  n (eb_pJ (eb_pJ σ 15 v1.toNatClampNeg 0) 16 v1.toNatClampNeg 0) x8 = mm := by rw [ex8]; exact hm
            exact ih (eb_pJ (eb_pJ σ 15 v1.toNatClampNeg 0) 16 v1.toNatClampNeg 0) x8 hm hj_ (eb_up i0_ (eb_nle h1) ex8 hn).1 (eb_up i0_ (eb_nle h1) ex8 hn).2
          · have hm := (if_pos h7).symm.trans hm
            obtain ⟨z9, qz9⟩ : ∃ t : Int64, t = m_X10_spans_in (z4.toInt.toNat + 1) 8 z4 := ⟨_, rfl⟩
            have hm : (if z4 = 18014398509481983 then (fun (x13 : Int32) => m_X10_spans_2  n (eb_pJ (eb_pJ (eb_pJ (eb_pJ σ 15 v1.toNatClampNeg 0) 16 v1.toNatClampNeg 0) 15 v1.toNatClampNeg 0) 16 v1.toNatClampNeg 9223372036854775807) x13) (v1 + 1) else (fun (x11 : Int64) => (fun (x12 : Int32) => m_X10_spans_2  n (eb_pJ (eb_pJ (eb_pJ (eb_pJ σ 15 v1.toNatClampNeg 0) 16 v1.toNatClampNeg 0) 15 v1.toNatClampNeg (((z4 * 4) / z9) * z9)) 16 v1.toNatClampNeg x11) x12) (v1 + 1)) (((eb_pJ (eb_pJ (eb_pJ σ 15 v1.toNatClampNeg 0) 16 v1.toNatClampNeg 0) 15 v1.toNatClampNeg (((z4 * 4) / z9) * z9)).2 15 v1.toNatClampNeg) + z9)) = mm := by rw [qz9]; exact hm
            have sz9 : eb_sp 8 z4 := eb_sp0 (by rw [qz4]; exact l_X10_addressOf hj_ (eb_inU (by decide) i0_ (eb_nle h1)))
            have nz9 : ¬ z9 = 0 := by rw [qz9]; exact l_X10_spans_in _ _ _ sz9
            refine eb_emn (c := z4 = 18014398509481983) (fun h10 => ?_) (fun h10 => ?_)
            · have hm := (if_neg h10).symm.trans hm
              obtain ⟨x11, ex11⟩ : ∃ z : Int64, z = ((eb_pJ (eb_pJ (eb_pJ σ 15 v1.toNatClampNeg 0) 16 v1.toNatClampNeg 0) 15 v1.toNatClampNeg (((z4 * 4) / z9) * z9)).2 15 v1.toNatClampNeg) + z9 := ⟨_, rfl⟩
              have hm : (fun (x12 : Int32) => m_X10_spans_2  n (eb_pJ (eb_pJ (eb_pJ (eb_pJ σ 15 v1.toNatClampNeg 0) 16 v1.toNatClampNeg 0) 15 v1.toNatClampNeg (((z4 * 4) / z9) * z9)) 16 v1.toNatClampNeg x11) x12) (v1 + 1) = mm := by rw [ex11]; exact hm
              obtain ⟨x12, ex12⟩ : ∃ z : Int32, z = v1 + 1 := ⟨_, rfl⟩
              have hm : m_X10_spans_2  n (eb_pJ (eb_pJ (eb_pJ (eb_pJ σ 15 v1.toNatClampNeg 0) 16 v1.toNatClampNeg 0) 15 v1.toNatClampNeg (((z4 * 4) / z9) * z9)) 16 v1.toNatClampNeg x11) x12 = mm := by rw [ex12]; exact hm
              exact ih (eb_pJ (eb_pJ (eb_pJ (eb_pJ σ 15 v1.toNatClampNeg 0) 16 v1.toNatClampNeg 0) 15 v1.toNatClampNeg (((z4 * 4) / z9) * z9)) 16 v1.toNatClampNeg x11) x12 hm hj_ (eb_up i0_ (eb_nle h1) ex12 hn).1 (eb_up i0_ (eb_nle h1) ex12 hn).2
            · have hm := (if_pos h10).symm.trans hm
              obtain ⟨x13, ex13⟩ : ∃ z : Int32, z = v1 + 1 := ⟨_, rfl⟩
              have hm : m_X10_spans_2  n (eb_pJ (eb_pJ (eb_pJ (eb_pJ σ 15 v1.toNatClampNeg 0) 16 v1.toNatClampNeg 0) 15 v1.toNatClampNeg 0) 16 v1.toNatClampNeg 9223372036854775807) x13 = mm := by rw [ex13]; exact hm
              exact ih (eb_pJ (eb_pJ (eb_pJ (eb_pJ σ 15 v1.toNatClampNeg 0) 16 v1.toNatClampNeg 0) 15 v1.toNatClampNeg 0) 16 v1.toNatClampNeg 9223372036854775807) x13 hm hj_ (eb_up i0_ (eb_nle h1) ex13 hn).1 (eb_up i0_ (eb_nle h1) ex13 hn).2
        · have hm := (if_pos h6).symm.trans hm
          obtain ⟨x14, ex14⟩ : ∃ z : Int32, z = v1 + 1 := ⟨_, rfl⟩
          have hm : m_X10_spans_2  n (eb_pJ (eb_pJ (eb_pJ (eb_pJ σ 15 v1.toNatClampNeg 0) 16 v1.toNatClampNeg 0) 15 v1.toNatClampNeg (z4 * 4)) 16 v1.toNatClampNeg ((z4 * 4) + 4)) x14 = mm := by rw [ex14]; exact hm
          exact ih (eb_pJ (eb_pJ (eb_pJ (eb_pJ σ 15 v1.toNatClampNeg 0) 16 v1.toNatClampNeg 0) 15 v1.toNatClampNeg (z4 * 4)) 16 v1.toNatClampNeg ((z4 * 4) + 4)) x14 hm hj_ (eb_up i0_ (eb_nle h1) ex14 hn).1 (eb_up i0_ (eb_nle h1) ex14 hn).2
      · have hm := (if_pos h5).symm.trans hm
        refine eb_emn (c := v1 = 0) (fun h15 => ?_) (fun h15 => ?_)
        · have hm := (if_neg h15).symm.trans hm
          obtain ⟨z16, qz16⟩ : ∃ t : Int64, t = m_X10_addressOf (eb_pJ (eb_pJ σ 15 v1.toNatClampNeg 0) 16 v1.toNatClampNeg 0) (v1 - 1) := ⟨_, rfl⟩
          have hm : (fun (x17 : Int32) => m_X10_spans_2  n (eb_pJ (eb_pJ (eb_pJ (eb_pJ σ 15 v1.toNatClampNeg 0) 16 v1.toNatClampNeg 0) 15 v1.toNatClampNeg (z16 * 4)) 16 v1.toNatClampNeg (z4 * 4)) x17) (v1 + 1) = mm := by rw [qz16]; exact hm
          obtain ⟨x17, ex17⟩ : ∃ z : Int32, z = v1 + 1 := ⟨_, rfl⟩
          have hm : m_X10_spans_2  n (eb_pJ (eb_pJ (eb_pJ (eb_pJ σ 15 v1.toNatClampNeg 0) 16 v1.toNatClampNeg 0) 15 v1.toNatClampNeg (z16 * 4)) 16 v1.toNatClampNeg (z4 * 4)) x17 = mm := by rw [ex17]; exact hm
          exact ih (eb_pJ (eb_pJ (eb_pJ (eb_pJ σ 15 v1.toNatClampNeg 0) 16 v1.toNatClampNeg 0) 15 v1.toNatClampNeg (z16 * 4)) 16 v1.toNatClampNeg (z4 * 4)) x17 hm hj_ (eb_up i0_ (eb_nle h1) ex17 hn).1 (eb_up i0_ (eb_nle h1) ex17 hn).2
        · have hm := (if_pos h15).symm.trans hm
          obtain ⟨x18, ex18⟩ : ∃ z : Int32, z = v1 + 1 := ⟨_, rfl⟩
          have hm : m_X10_spans_2  n (eb_pJ (eb_pJ (eb_pJ (eb_pJ σ 15 v1.toNatClampNeg 0) 16 v1.toNatClampNeg 0) 15 v1.toNatClampNeg 0) 16 v1.toNatClampNeg (z4 * 4)) x18 = mm := by rw [ex18]; exact hm
          exact ih (eb_pJ (eb_pJ (eb_pJ (eb_pJ σ 15 v1.toNatClampNeg 0) 16 v1.toNatClampNeg 0) 15 v1.toNatClampNeg 0) 16 v1.toNatClampNeg (z4 * 4)) x18 hm hj_ (eb_up i0_ (eb_nle h1) ex18 hn).1 (eb_up i0_ (eb_nle h1) ex18 hn).2
theorem J_X10_spans {σ : eb_St}  {mm : eb_St} (hm : m_X10_spans σ = mm) (hj_ : rJ σ) : rJ mm := by
  have hm : m_X10_spans_2  17 σ 0 = mm := hm
  exact J_X10_spans_2 17 σ 0 hm hj_ (by decide) (by decide)
set_option maxHeartbeats 4000000 in
set_option maxRecDepth 100000 in
theorem k_X10_spans_2 {p : Program} {l : Launch} {e : Env} {s : State} {m : MethodId} {args : Array Value} {below : List Frame} {meth : Method} {c : Code} {A : Nat → Prop} {D : va_G} {cy : Nat → ClassId} {ad : Nat → Nat} (X : eb_X p s m args meth c cX10_spans 10 RX10 (Cond.code yX10_spans cX10_spans 10 none :: wsL_law) none D cy A)   : ∀ (n : Nat) (σ : eb_St) (v1 : Int32) (hj_ : rJ σ) (i0_ : 0 ≤ v1.toInt) (hn : ((16 : Int32).toInt - v1.toInt).toNat < n) {H : Heap} {locs : List Loc} {ls : Array Slot} {mm : eb_St} (_ : (m_X10_spans_2  n σ v1) = mm) (hw : eb_H D 18 cy rL ad A s.heap σ H locs) (hl : lv_has ls 10 [(0, .ref (ad 0)), (1, .int v1)]), W p l e ({ frames := 3, cells := 0, slots := 0, locals := 63 } : Room) s m args below meth c H locs 0 0 (MQ below (eb_Q D 18 cy rL ad A (none) mm) args s 0 0 A) (F0 m 2 ls []) := by
  have hx := X.1.1
  have hb := X.1.2.1
  have hown := X.1.2.2.2.1
  have hts := X.1.2.2.2.2
  intro n
  induction n with
  | zero => intro σ v1 hj_ i0_ hn; exact absurd hn (Nat.not_lt_zero _)
  | succ n ih =>
    intro σ v1 hj_ i0_ hn H locs ls mm hm hw hl
    have hm : (if (16 : Int32) ≤ v1 then eb_pI σ 0 35 1 else (fun (z2 : Int32) => (fun (x3 : Int32) => (fun (z4 : Int64) => (if x3 = 1 then (if v1 = 0 then (fun (x18 : Int32) => m_X10_spans_2  n (eb_pJ (eb_pJ (eb_pJ (eb_pJ σ 15 v1.toNatClampNeg 0) 16 v1.toNatClampNeg 0) 15 v1.toNatClampNeg 0) 16 v1.toNatClampNeg (z4 * 4)) x18) (v1 + 1) else (fun (z16 : Int64) => (fun (x17 : Int32) => m_X10_spans_2  n (eb_pJ (eb_pJ (eb_pJ (eb_pJ σ 15 v1.toNatClampNeg 0) 16 v1.toNatClampNeg 0) 15 v1.toNatClampNeg (z16 * 4)) 16 v1.toNatClampNeg (z4 * 4)) x17) (v1 + 1)) (m_X10_addressOf (eb_pJ (eb_pJ σ 15 v1.toNatClampNeg 0) 16 v1.toNatClampNeg 0) (v1 - 1))) else (if x3 = 2 then (fun (x14 : Int32) => m_X10_spans_2  n (eb_pJ (eb_pJ (eb_pJ (eb_pJ σ 15 v1.toNatClampNeg 0) 16 v1.toNatClampNeg 0) 15 v1.toNatClampNeg (z4 * 4)) 16 v1.toNatClampNeg ((z4 * 4) + 4)) x14) (v1 + 1) else (if x3 = 3 then (fun (z9 : Int64) => (if z4 = 18014398509481983 then (fun (x13 : Int32) => m_X10_spans_2  n (eb_pJ (eb_pJ (eb_pJ (eb_pJ σ 15 v1.toNatClampNeg 0) 16 v1.toNatClampNeg 0) 15 v1.toNatClampNeg 0) 16 v1.toNatClampNeg 9223372036854775807) x13) (v1 + 1) else (fun (x11 : Int64) => (fun (x12 : Int32) => m_X10_spans_2  n (eb_pJ (eb_pJ (eb_pJ (eb_pJ σ 15 v1.toNatClampNeg 0) 16 v1.toNatClampNeg 0) 15 v1.toNatClampNeg (((z4 * 4) / z9) * z9)) 16 v1.toNatClampNeg x11) x12) (v1 + 1)) (((eb_pJ (eb_pJ (eb_pJ σ 15 v1.toNatClampNeg 0) 16 v1.toNatClampNeg 0) 15 v1.toNatClampNeg (((z4 * 4) / z9) * z9)).2 15 v1.toNatClampNeg) + z9))) (m_X10_spans_in (z4.toInt.toNat + 1) 8 z4) else (fun (x8 : Int32) => m_X10_spans_2  n (eb_pJ (eb_pJ σ 15 v1.toNatClampNeg 0) 16 v1.toNatClampNeg 0) x8) (v1 + 1))))) (m_X10_addressOf σ v1)) ((z2 >>> (3 &&& 31)) &&& 3)) (m_X10_byteOf σ v1)) = mm := hm
    refine lv_iload_n hx hb dX10_spans_2 rfl (lv_at hl 1 rfl) ?_
    refine lv_bipush (v := 16) hx hb dX10_spans_3 (by decide) ?_
    refine lv_icmp_ge (tgt := 228) hx hb dX10_spans_5 (by decide) (fun h1 => ?_) (fun h1 => ?_)
    · have hm := (if_pos h1).symm.trans hm
      refine lv_aload_n hx hb dX10_spans_228 rfl (lv_at hl 0 rfl) ?_
      refine lv_iconst (v := 1) hx hb dX10_spans_229 (by decide) ?_
      refine eb_putI (T := TX10) X hw 0 35 (by decide) ⟨rfl, rfl, rfl⟩ (by decide) rfl (fun _ h => List.mem_cons_of_mem _ (inlX10 _ h)) (List.mem_cons_of_mem _ wi_9_21) tyX10 tyX10_ok nmX10 rfl rfl rfl dX10_spans_230 (fun H locs hw => ?_)
      subst hm
      exact eb_vret X hw rfl rfl dX10_spans_233
    · have hm := (if_neg h1).symm.trans hm
      refine lv_aload_n hx hb dX10_spans_8 rfl (lv_at hl 0 rfl) ?_
      refine lv_iload_n hx hb dX10_spans_9 rfl (lv_at hl 1 rfl) ?_
      obtain ⟨z2, qz2⟩ : ∃ t : Int32, t = m_X10_byteOf σ v1 := ⟨_, rfl⟩
      have hm : (fun (x3 : Int32) => (fun (z4 : Int64) => (if x3 = 1 then (if v1 = 0 then (fun (x18 : Int32) => m_X10_spans_2  n (eb_pJ (eb_pJ (eb_pJ (eb_pJ σ 15 v1.toNatClampNeg 0) 16 v1.toNatClampNeg 0) 15 v1.toNatClampNeg 0) 16 v1.toNatClampNeg (z4 * 4)) x18) (v1 + 1) else (fun (z16 : Int64) => (fun (x17 : Int32) => m_X10_spans_2  n (eb_pJ (eb_pJ (eb_pJ (eb_pJ σ 15 v1.toNatClampNeg 0) 16 v1.toNatClampNeg 0) 15 v1.toNatClampNeg (z16 * 4)) 16 v1.toNatClampNeg (z4 * 4)) x17) (v1 + 1)) (m_X10_addressOf (eb_pJ (eb_pJ σ 15 v1.toNatClampNeg 0) 16 v1.toNatClampNeg 0) (v1 - 1))) else (if x3 = 2 then (fun (x14 : Int32) => m_X10_spans_2  n (eb_pJ (eb_pJ (eb_pJ (eb_pJ σ 15 v1.toNatClampNeg 0) 16 v1.toNatClampNeg 0) 15 v1.toNatClampNeg (z4 * 4)) 16 v1.toNatClampNeg ((z4 * 4) + 4)) x14) (v1 + 1) else (if x3 = 3 then (fun (z9 : Int64) => (if z4 = 18014398509481983 then (fun (x13 : Int32) => m_X10_spans_2  n (eb_pJ (eb_pJ (eb_pJ (eb_pJ σ 15 v1.toNatClampNeg 0) 16 v1.toNatClampNeg 0) 15 v1.toNatClampNeg 0) 16 v1.toNatClampNeg 9223372036854775807) x13) (v1 + 1) else (fun (x11 : Int64) => (fun (x12 : Int32) => m_X10_spans_2  n (eb_pJ (eb_pJ (eb_pJ (eb_pJ σ 15 v1.toNatClampNeg 0) 16 v1.toNatClampNeg 0) 15 v1.toNatClampNeg (((z4 * 4) / z9) * z9)) 16 v1.toNatClampNeg x11) x12) (v1 + 1)) (((eb_pJ (eb_pJ (eb_pJ σ 15 v1.toNatClampNeg 0) 16 v1.toNatClampNeg 0) 15 v1.toNatClampNeg (((z4 * 4) / z9) * z9)).2 15 v1.toNatClampNeg) + z9))) (m_X10_spans_in (z4.toInt.toNat + 1) 8 z4) else (fun (x8 : Int32) => m_X10_spans_2  n (eb_pJ (eb_pJ σ 15 v1.toNatClampNeg 0) 16 v1.toNatClampNeg 0) x8) (v1 + 1))))) (m_X10_addressOf σ v1)) ((z2 >>> (3 &&& 31)) &&& 3) = mm := by rw [qz2]; exact hm
      have hc : eb_M l yX10_byteOf (Cond.code yX10_byteOf cX10_byteOf 2 (some .int) :: wsL_law) 1 21 D 18 cy rL ad σ [.ref (ad 0), .int v1] (some (.int z2)) σ := by rw [qz2]; exact c_X10_byteOf l D cy ad σ v1 hj_ (eb_inU (by decide) i0_ (eb_nle h1))
      refine eb_callV (n := 1) (as := [.int v1]) (rest := []) X hw hl.1 0 hc (by decide) ⟨rfl, rfl, rfl⟩ (eb_goodV wi_31_15 wi_31_16 wi_31_17 wi_1_5 wi_31_18) rfl (by decide +kernel) ⟨by decide, by decide⟩ rfl rfl (Nat.le_of_ble_eq_true rfl) dX10_spans_10 ⟨by decide, by decide⟩ (st' := [.int z2]) rfl (fun H locs hw => ?_)
      refine lv_iconst (v := 3) hx hb dX10_spans_13 (by decide) ?_
      refine lv_ishr hx hb dX10_spans_14 ?_
      refine lv_iconst (v := 3) hx hb dX10_spans_15 (by decide) ?_
      refine lv_iand hx hb dX10_spans_16 ?_
      refine lv_topi (fun x3 ex3 => ?_)
      have hm : (fun (z4 : Int64) => (if x3 = 1 then (if v1 = 0 then (fun (x18 : Int32) => m_X10_spans_2  n (eb_pJ (eb_pJ (eb_pJ (eb_pJ σ 15 v1.toNatClampNeg 0) 16 v1.toNatClampNeg 0) 15 v1.toNatClampNeg 0) 16 v1.toNatClampNeg (z4 * 4)) x18) (v1 + 1) else (fun (z16 : Int64) => (fun (x17 : Int32) => m_X10_spans_2  n (eb_pJ (eb_pJ (eb_pJ (eb_pJ σ 15 v1.toNatClampNeg 0) 16 v1.toNatClampNeg 0) 15 v1.toNatClampNeg (z16 * 4)) 16 v1.toNatClampNeg (z4 * 4)) x17) (v1 + 1)) (m_X10_addressOf (eb_pJ (eb_pJ σ 15 v1.toNatClampNeg 0) 16 v1.toNatClampNeg 0) (v1 - 1))) else (if x3 = 2 then (fun (x14 : Int32) => m_X10_spans_2  n (eb_pJ (eb_pJ (eb_pJ (eb_pJ σ 15 v1.toNatClampNeg 0) 16 v1.toNatClampNeg 0) 15 v1.toNatClampNeg (z4 * 4)) 16 v1.toNatClampNeg ((z4 * 4) + 4)) x14) (v1 + 1) else (if x3 = 3 then (fun (z9 : Int64) => (if z4 = 18014398509481983 then (fun (x13 : Int32) => m_X10_spans_2  n (eb_pJ (eb_pJ (eb_pJ (eb_pJ σ 15 v1.toNatClampNeg 0) 16 v1.toNatClampNeg 0) 15 v1.toNatClampNeg 0) 16 v1.toNatClampNeg 9223372036854775807) x13) (v1 + 1) else (fun (x11 : Int64) => (fun (x12 : Int32) => m_X10_spans_2  n (eb_pJ (eb_pJ (eb_pJ (eb_pJ σ 15 v1.toNatClampNeg 0) 16 v1.toNatClampNeg 0) 15 v1.toNatClampNeg (((z4 * 4) / z9) * z9)) 16 v1.toNatClampNeg x11) x12) (v1 + 1)) (((eb_pJ (eb_pJ (eb_pJ σ 15 v1.toNatClampNeg 0) 16 v1.toNatClampNeg 0) 15 v1.toNatClampNeg (((z4 * 4) / z9) * z9)).2 15 v1.toNatClampNeg) + z9))) (m_X10_spans_in (z4.toInt.toNat + 1) 8 z4) else (fun (x8 : Int32) => m_X10_spans_2  n (eb_pJ (eb_pJ σ 15 v1.toNatClampNeg 0) 16 v1.toNatClampNeg 0) x8) (v1 + 1))))) (m_X10_addressOf σ v1) = mm := by rw [ex3]; exact hm
      refine lv_istore_n (lv' := [(2, .int x3), (0, .ref (ad 0)), (1, .int v1)]) hx hb dX10_spans_17 rfl hl (by decide) rfl (fun ls hl => ?_)
      refine lv_aload_n hx hb dX10_spans_18 rfl (lv_at hl 1 rfl) ?_
      refine lv_iload_n hx hb dX10_spans_19 rfl (lv_at hl 2 rfl) ?_
      obtain ⟨z4, qz4⟩ : ∃ t : Int64, t = m_X10_addressOf σ v1 := ⟨_, rfl⟩
      have hm : (if x3 = 1 then (if v1 = 0 then (fun (x18 : Int32) => m_X10_spans_2  n (eb_pJ (eb_pJ (eb_pJ (eb_pJ σ 15 v1.toNatClampNeg 0) 16 v1.toNatClampNeg 0) 15 v1.toNatClampNeg 0) 16 v1.toNatClampNeg (z4 * 4)) x18) (v1 + 1) else (fun (z16 : Int64) => (fun (x17 : Int32) => m_X10_spans_2  n (eb_pJ (eb_pJ (eb_pJ (eb_pJ σ 15 v1.toNatClampNeg 0) 16 v1.toNatClampNeg 0) 15 v1.toNatClampNeg (z16 * 4)) 16 v1.toNatClampNeg (z4 * 4)) x17) (v1 + 1)) (m_X10_addressOf (eb_pJ (eb_pJ σ 15 v1.toNatClampNeg 0) 16 v1.toNatClampNeg 0) (v1 - 1))) else (if x3 = 2 then (fun (x14 : Int32) => m_X10_spans_2  n (eb_pJ (eb_pJ (eb_pJ (eb_pJ σ 15 v1.toNatClampNeg 0) 16 v1.toNatClampNeg 0) 15 v1.toNatClampNeg (z4 * 4)) 16 v1.toNatClampNeg ((z4 * 4) + 4)) x14) (v1 + 1) else (if x3 = 3 then (fun (z9 : Int64) => (if z4 = 18014398509481983 then (fun (x13 : Int32) => m_X10_spans_2  n (eb_pJ (eb_pJ (eb_pJ (eb_pJ σ 15 v1.toNatClampNeg 0) 16 v1.toNatClampNeg 0) 15 v1.toNatClampNeg 0) 16 v1.toNatClampNeg 9223372036854775807) x13) (v1 + 1) else (fun (x11 : Int64) => (fun (x12 : Int32) => m_X10_spans_2  n (eb_pJ (eb_pJ (eb_pJ (eb_pJ σ 15 v1.toNatClampNeg 0) 16 v1.toNatClampNeg 0) 15 v1.toNatClampNeg (((z4 * 4) / z9) * z9)) 16 v1.toNatClampNeg x11) x12) (v1 + 1)) (((eb_pJ (eb_pJ (eb_pJ σ 15 v1.toNatClampNeg 0) 16 v1.toNatClampNeg 0) 15 v1.toNatClampNeg (((z4 * 4) / z9) * z9)).2 15 v1.toNatClampNeg) + z9))) (m_X10_spans_in (z4.toInt.toNat + 1) 8 z4) else (fun (x8 : Int32) => m_X10_spans_2  n (eb_pJ (eb_pJ σ 15 v1.toNatClampNeg 0) 16 v1.toNatClampNeg 0) x8) (v1 + 1)))) = mm := by rw [qz4]; exact hm
      have hc : eb_M l yX10_addressOf (Cond.code yX10_addressOf cX10_addressOf 2 (some .long) :: wsL_law) 2 42 D 18 cy rL ad σ [.ref (ad 0), .int v1] (some (.long z4)) σ := by rw [qz4]; exact c_X10_addressOf l D cy ad σ v1 hj_ (eb_inU (by decide) i0_ (eb_nle h1))
      refine eb_callV (n := 1) (as := [.int v1]) (rest := []) X hw hl.1 0 hc (by decide) ⟨rfl, rfl, rfl⟩ (eb_goodV wi_31_19 wi_31_20 wi_31_21 wi_1_5 wi_31_22) rfl (by decide +kernel) ⟨by decide, by decide⟩ rfl rfl (Nat.le_of_ble_eq_true rfl) dX10_spans_20 ⟨by decide, by decide⟩ (st' := [.long z4]) rfl (fun H locs hw => ?_)
      refine lv_lstore_n (lv' := [(3, .long z4), (2, .int x3), (0, .ref (ad 0)), (1, .int v1)]) hx hb dX10_spans_23 rfl hl (by decide) rfl (fun ls hl => ?_)
      refine lv_aload_n hx hb dX10_spans_24 rfl (lv_at hl 2 rfl) ?_
      refine eb_get (T := TX10) X hw 0 33 (by decide) ⟨rfl, rfl, rfl⟩ (by decide) (fun _ h => List.mem_cons_of_mem _ (inlX10 _ h)) (List.mem_cons_of_mem _ wi_6_1) (v := .ref (ad 15)) rfl dX10_spans_25 ?_
      refine lv_iload_n hx hb dX10_spans_28 rfl (lv_at hl 3 rfl) ?_
      refine lv_lconst (v := 0) hx hb dX10_spans_29 (by decide) ?_
      refine eb_last (n := 16) X hw 15 (by decide) rfl rfl (eb_inU (by decide) i0_ (eb_nle h1)) dX10_spans_30 (fun H locs hw => ?_)
      refine lv_aload_n hx hb dX10_spans_31 rfl (lv_at hl 2 rfl) ?_
      refine eb_get (T := TX10) X hw 0 34 (by decide) ⟨rfl, rfl, rfl⟩ (by decide) (fun _ h => List.mem_cons_of_mem _ (inlX10 _ h)) (List.mem_cons_of_mem _ wi_6_2) (v := .ref (ad 16)) rfl dX10_spans_32 ?_
      refine lv_iload_n hx hb dX10_spans_35 rfl (lv_at hl 3 rfl) ?_
      refine lv_lconst (v := 0) hx hb dX10_spans_36 (by decide) ?_
      refine eb_last (n := 16) X hw 16 (by decide) rfl rfl (eb_inU (by decide) i0_ (eb_nle h1)) dX10_spans_37 (fun H locs hw => ?_)
      refine lv_iload_n hx hb dX10_spans_38 rfl (lv_at hl 1 rfl) ?_
      refine lv_iconst (v := 1) hx hb dX10_spans_39 (by decide) ?_
      refine lv_icmp_ne (tgt := 82) hx hb dX10_spans_40 (by decide) (fun h5 => ?_) (fun h5 => ?_)
      · have hm := (if_neg h5).symm.trans hm
        refine lv_iload_n hx hb dX10_spans_82 rfl (lv_at hl 1 rfl) ?_
        refine lv_iconst (v := 2) hx hb dX10_spans_83 (by decide) ?_
        refine lv_icmp_ne (tgt := 116) hx hb dX10_spans_84 (by decide) (fun h6 => ?_) (fun h6 => ?_)
        · have hm := (if_neg h6).symm.trans hm
          refine lv_iload_n hx hb dX10_spans_116 rfl (lv_at hl 1 rfl) ?_
          refine lv_iconst (v := 3) hx hb dX10_spans_117 (by decide) ?_
          refine lv_icmp_ne (tgt := 222) hx hb dX10_spans_118 (by decide) (fun h7 => ?_) (fun h7 => ?_)
          · have hm := (if_neg h7).symm.trans hm
            obtain ⟨x8, ex8⟩ : ∃ z : Int32, z = v1 + 1 := ⟨_, rfl⟩
            have hm : m_X10_spans_2  n (eb_pJ (eb_pJ σ 15 v1.toNatClampNeg 0) 16 v1.toNatClampNeg 0) x8 = mm := by rw [ex8]; exact hm
            refine lv_iinc (v := x8) (lv' := [(1, .int x8), (3, .long z4), (2, .int x3), (0, .ref (ad 0))]) hx hb dX10_spans_222 hl (k := 3) rfl (by rw [ex8]; exact congrArg (v1 + ·) (by decide)) (by decide) rfl (fun ls hl => ?_)
            refine lv_goto (tgt := 2) hx hb dX10_spans_225 (by decide) ?_
            exact ih (eb_pJ (eb_pJ σ 15 v1.toNatClampNeg 0) 16 v1.toNatClampNeg 0) x8 hj_ (eb_up i0_ (eb_nle h1) ex8 hn).1 (eb_up i0_ (eb_nle h1) ex8 hn).2 hm hw (lv_sub hl [3, 0] rfl)
          · have hm := (if_pos h7).symm.trans hm
            refine lv_ldc2 hx hb hown (hts _ (List.mem_cons_of_mem _ wi_31_11)) dX10_spans_121 ?_
            refine lv_lstore (lv' := [(5, .long 8), (3, .long z4), (2, .int x3), (0, .ref (ad 0)), (1, .int v1)]) hx hb dX10_spans_124 hl (by decide) rfl (fun ls hl => ?_)
            refine lv_lload_n hx hb dX10_spans_126 rfl (lv_at hl 1 rfl) ?_
            refine lv_lstore (lv' := [(7, .long z4), (5, .long 8), (3, .long z4), (2, .int x3), (0, .ref (ad 0)), (1, .int v1)]) hx hb dX10_spans_127 hl (by decide) rfl (fun ls hl => ?_)
            obtain ⟨z9, qz9⟩ : ∃ t : Int64, t = m_X10_spans_in (z4.toInt.toNat + 1) 8 z4 := ⟨_, rfl⟩
            have hm : (if z4 = 18014398509481983 then (fun (x13 : Int32) => m_X10_spans_2  n (eb_pJ (eb_pJ (eb_pJ (eb_pJ σ 15 v1.toNatClampNeg 0) 16 v1.toNatClampNeg 0) 15 v1.toNatClampNeg 0) 16 v1.toNatClampNeg 9223372036854775807) x13) (v1 + 1) else (fun (x11 : Int64) => (fun (x12 : Int32) => m_X10_spans_2  n (eb_pJ (eb_pJ (eb_pJ (eb_pJ σ 15 v1.toNatClampNeg 0) 16 v1.toNatClampNeg 0) 15 v1.toNatClampNeg (((z4 * 4) / z9) * z9)) 16 v1.toNatClampNeg x11) x12) (v1 + 1)) (((eb_pJ (eb_pJ (eb_pJ σ 15 v1.toNatClampNeg 0) 16 v1.toNatClampNeg 0) 15 v1.toNatClampNeg (((z4 * 4) / z9) * z9)).2 15 v1.toNatClampNeg) + z9)) = mm := by rw [qz9]; exact hm
            have sz9 : eb_sp 8 z4 := eb_sp0 (by rw [qz4]; exact l_X10_addressOf hj_ (eb_inU (by decide) i0_ (eb_nle h1)))
            have nz9 : ¬ z9 = 0 := by rw [qz9]; exact l_X10_spans_in _ _ _ sz9
            refine kk_X10_spans_129 X v1 z4 (z4.toInt.toNat + 1) 8 z4 sz9 (Nat.lt_succ_self _) hw (lv_sub hl [4, 5, 2, 1, 0] rfl) (fun ls hl => ?_)
            rw [← qz9] at hl
            refine lv_lload_n hx hb dX10_spans_155 rfl (lv_at hl 2 rfl) ?_
            refine lv_ldc2 hx hb hown (hts _ (List.mem_cons_of_mem _ wi_31_13)) dX10_spans_156 ?_
            refine eb_lif_ne (tgt := 167) hx hb dX10_spans_159 dX10_spans_160 (by decide) (fun h10 => ?_) (fun h10 => ?_)
            · have hm := (if_neg h10).symm.trans hm
              refine lv_iconst (v := 0) hx hb dX10_spans_167 (by decide) ?_
              refine lv_istore (lv' := [(9, .int 0), (0, .ref (ad 0)), (1, .int v1), (3, .long z4), (5, .long z9)]) hx hb dX10_spans_168 hl (by decide) rfl (fun ls hl => ?_)
              refine lv_aload_n hx hb dX10_spans_170 rfl (lv_at hl 1 rfl) ?_
              refine eb_get (T := TX10) X hw 0 33 (by decide) ⟨rfl, rfl, rfl⟩ (by decide) (fun _ h => List.mem_cons_of_mem _ (inlX10 _ h)) (List.mem_cons_of_mem _ wi_6_1) (v := .ref (ad 15)) rfl dX10_spans_171 ?_
              refine lv_iload_n hx hb dX10_spans_174 rfl (lv_at hl 2 rfl) ?_
              refine lv_iload hx hb dX10_spans_175 (lv_at hl 0 rfl) ?_
              refine lv_if_eq (tgt := 184) hx hb dX10_spans_177 (by decide) (fun _ => ?_) (fun hq => absurd (by decide) hq)
              refine lv_lload_n hx hb dX10_spans_184 rfl (lv_at hl 3 rfl) ?_
              refine lv_ldc2 hx hb hown (hts _ (List.mem_cons_of_mem _ wi_30_14)) dX10_spans_185 ?_
              refine lv_lmul hx hb dX10_spans_188 ?_
              refine lv_lload hx hb dX10_spans_189 (lv_at hl 4 rfl) ?_
              refine lv_ldiv hx hb dX10_spans_191 nz9 ?_
              refine lv_lload hx hb dX10_spans_192 (lv_at hl 4 rfl) ?_
              refine lv_lmul hx hb dX10_spans_194 ?_
              refine eb_last (n := 16) X hw 15 (by decide) rfl rfl (eb_inU (by decide) i0_ (eb_nle h1)) dX10_spans_195 (fun H locs hw => ?_)
              refine lv_aload_n hx hb dX10_spans_196 rfl (lv_at hl 1 rfl) ?_
              refine eb_get (T := TX10) X hw 0 34 (by decide) ⟨rfl, rfl, rfl⟩ (by decide) (fun _ h => List.mem_cons_of_mem _ (inlX10 _ h)) (List.mem_cons_of_mem _ wi_6_2) (v := .ref (ad 16)) rfl dX10_spans_197 ?_
              refine lv_iload_n hx hb dX10_spans_200 rfl (lv_at hl 2 rfl) ?_
              refine lv_iload hx hb dX10_spans_201 (lv_at hl 0 rfl) ?_
              refine lv_if_eq (tgt := 212) hx hb dX10_spans_203 (by decide) (fun _ => ?_) (fun hq => absurd (by decide) hq)
              refine lv_aload_n hx hb dX10_spans_212 rfl (lv_at hl 1 rfl) ?_
              refine eb_get (T := TX10) X hw 0 33 (by decide) ⟨rfl, rfl, rfl⟩ (by decide) (fun _ h => List.mem_cons_of_mem _ (inlX10 _ h)) (List.mem_cons_of_mem _ wi_6_1) (v := .ref (ad 15)) rfl dX10_spans_213 ?_
              refine lv_iload_n hx hb dX10_spans_216 rfl (lv_at hl 2 rfl) ?_
              refine eb_lald (n := 16) X hw 15 (by decide) rfl rfl (eb_inU (by decide) i0_ (eb_nle h1)) dX10_spans_217 ?_
              refine lv_lload hx hb dX10_spans_218 (lv_at hl 4 rfl) ?_
              refine lv_ladd hx hb dX10_spans_220 ?_
              refine lv_topl (fun x11 ex11 => ?_)
              have hm : (fun (x12 : Int32) => m_X10_spans_2  n (eb_pJ (eb_pJ (eb_pJ (eb_pJ σ 15 v1.toNatClampNeg 0) 16 v1.toNatClampNeg 0) 15 v1.toNatClampNeg (((z4 * 4) / z9) * z9)) 16 v1.toNatClampNeg x11) x12) (v1 + 1) = mm := by rw [ex11]; exact hm
              refine eb_last (n := 16) X hw 16 (by decide) rfl rfl (eb_inU (by decide) i0_ (eb_nle h1)) dX10_spans_221 (fun H locs hw => ?_)
              obtain ⟨x12, ex12⟩ : ∃ z : Int32, z = v1 + 1 := ⟨_, rfl⟩
              have hm : m_X10_spans_2  n (eb_pJ (eb_pJ (eb_pJ (eb_pJ σ 15 v1.toNatClampNeg 0) 16 v1.toNatClampNeg 0) 15 v1.toNatClampNeg (((z4 * 4) / z9) * z9)) 16 v1.toNatClampNeg x11) x12 = mm := by rw [ex12]; exact hm
              refine lv_iinc (v := x12) (lv' := [(1, .int x12), (9, .int 0), (0, .ref (ad 0)), (3, .long z4), (5, .long z9)]) hx hb dX10_spans_222 hl (k := 2) rfl (by rw [ex12]; exact congrArg (v1 + ·) (by decide)) (by decide) rfl (fun ls hl => ?_)
              refine lv_goto (tgt := 2) hx hb dX10_spans_225 (by decide) ?_
              exact ih (eb_pJ (eb_pJ (eb_pJ (eb_pJ σ 15 v1.toNatClampNeg 0) 16 v1.toNatClampNeg 0) 15 v1.toNatClampNeg (((z4 * 4) / z9) * z9)) 16 v1.toNatClampNeg x11) x12 hj_ (eb_up i0_ (eb_nle h1) ex12 hn).1 (eb_up i0_ (eb_nle h1) ex12 hn).2 hm hw (lv_sub hl [2, 0] rfl)
            · have hm := (if_pos h10).symm.trans hm
              refine lv_iconst (v := 1) hx hb dX10_spans_163 (by decide) ?_
              refine lv_goto (tgt := 168) hx hb dX10_spans_164 (by decide) ?_
              refine lv_istore (lv' := [(9, .int 1), (0, .ref (ad 0)), (1, .int v1), (3, .long z4), (5, .long z9)]) hx hb dX10_spans_168 hl (by decide) rfl (fun ls hl => ?_)
              refine lv_aload_n hx hb dX10_spans_170 rfl (lv_at hl 1 rfl) ?_
              refine eb_get (T := TX10) X hw 0 33 (by decide) ⟨rfl, rfl, rfl⟩ (by decide) (fun _ h => List.mem_cons_of_mem _ (inlX10 _ h)) (List.mem_cons_of_mem _ wi_6_1) (v := .ref (ad 15)) rfl dX10_spans_171 ?_
              refine lv_iload_n hx hb dX10_spans_174 rfl (lv_at hl 2 rfl) ?_
              refine lv_iload hx hb dX10_spans_175 (lv_at hl 0 rfl) ?_
              refine lv_if_eq (tgt := 184) hx hb dX10_spans_177 (by decide) (fun hq => absurd hq (by decide)) (fun _ => ?_)
              refine lv_lconst (v := 0) hx hb dX10_spans_180 (by decide) ?_
              refine lv_goto (tgt := 195) hx hb dX10_spans_181 (by decide) ?_
              refine eb_last (n := 16) X hw 15 (by decide) rfl rfl (eb_inU (by decide) i0_ (eb_nle h1)) dX10_spans_195 (fun H locs hw => ?_)
              refine lv_aload_n hx hb dX10_spans_196 rfl (lv_at hl 1 rfl) ?_
              refine eb_get (T := TX10) X hw 0 34 (by decide) ⟨rfl, rfl, rfl⟩ (by decide) (fun _ h => List.mem_cons_of_mem _ (inlX10 _ h)) (List.mem_cons_of_mem _ wi_6_2) (v := .ref (ad 16)) rfl dX10_spans_197 ?_
              refine lv_iload_n hx hb dX10_spans_200 rfl (lv_at hl 2 rfl) ?_
              refine lv_iload hx hb dX10_spans_201 (lv_at hl 0 rfl) ?_
              refine lv_if_eq (tgt := 212) hx hb dX10_spans_203 (by decide) (fun hq => absurd hq (by decide)) (fun _ => ?_)
              refine lv_ldc2 hx hb hown (hts _ (List.mem_cons_of_mem _ wi_31_14)) dX10_spans_206 ?_
              refine lv_goto (tgt := 221) hx hb dX10_spans_209 (by decide) ?_
              refine eb_last (n := 16) X hw 16 (by decide) rfl rfl (eb_inU (by decide) i0_ (eb_nle h1)) dX10_spans_221 (fun H locs hw => ?_)
              obtain ⟨x13, ex13⟩ : ∃ z : Int32, z = v1 + 1 := ⟨_, rfl⟩
              have hm : m_X10_spans_2  n (eb_pJ (eb_pJ (eb_pJ (eb_pJ σ 15 v1.toNatClampNeg 0) 16 v1.toNatClampNeg 0) 15 v1.toNatClampNeg 0) 16 v1.toNatClampNeg 9223372036854775807) x13 = mm := by rw [ex13]; exact hm
              refine lv_iinc (v := x13) (lv' := [(1, .int x13), (9, .int 1), (0, .ref (ad 0)), (3, .long z4), (5, .long z9)]) hx hb dX10_spans_222 hl (k := 2) rfl (by rw [ex13]; exact congrArg (v1 + ·) (by decide)) (by decide) rfl (fun ls hl => ?_)
              refine lv_goto (tgt := 2) hx hb dX10_spans_225 (by decide) ?_
              exact ih (eb_pJ (eb_pJ (eb_pJ (eb_pJ σ 15 v1.toNatClampNeg 0) 16 v1.toNatClampNeg 0) 15 v1.toNatClampNeg 0) 16 v1.toNatClampNeg 9223372036854775807) x13 hj_ (eb_up i0_ (eb_nle h1) ex13 hn).1 (eb_up i0_ (eb_nle h1) ex13 hn).2 hm hw (lv_sub hl [2, 0] rfl)
        · have hm := (if_pos h6).symm.trans hm
          refine lv_aload_n hx hb dX10_spans_87 rfl (lv_at hl 2 rfl) ?_
          refine eb_get (T := TX10) X hw 0 33 (by decide) ⟨rfl, rfl, rfl⟩ (by decide) (fun _ h => List.mem_cons_of_mem _ (inlX10 _ h)) (List.mem_cons_of_mem _ wi_6_1) (v := .ref (ad 15)) rfl dX10_spans_88 ?_
          refine lv_iload_n hx hb dX10_spans_91 rfl (lv_at hl 3 rfl) ?_
          refine lv_lload_n hx hb dX10_spans_92 rfl (lv_at hl 0 rfl) ?_
          refine lv_ldc2 hx hb hown (hts _ (List.mem_cons_of_mem _ wi_30_14)) dX10_spans_93 ?_
          refine lv_lmul hx hb dX10_spans_96 ?_
          refine eb_last (n := 16) X hw 15 (by decide) rfl rfl (eb_inU (by decide) i0_ (eb_nle h1)) dX10_spans_97 (fun H locs hw => ?_)
          refine lv_aload_n hx hb dX10_spans_98 rfl (lv_at hl 2 rfl) ?_
          refine eb_get (T := TX10) X hw 0 34 (by decide) ⟨rfl, rfl, rfl⟩ (by decide) (fun _ h => List.mem_cons_of_mem _ (inlX10 _ h)) (List.mem_cons_of_mem _ wi_6_2) (v := .ref (ad 16)) rfl dX10_spans_99 ?_
          refine lv_iload_n hx hb dX10_spans_102 rfl (lv_at hl 3 rfl) ?_
          refine lv_lload_n hx hb dX10_spans_103 rfl (lv_at hl 0 rfl) ?_
          refine lv_ldc2 hx hb hown (hts _ (List.mem_cons_of_mem _ wi_30_14)) dX10_spans_104 ?_
          refine lv_lmul hx hb dX10_spans_107 ?_
          refine lv_ldc2 hx hb hown (hts _ (List.mem_cons_of_mem _ wi_30_14)) dX10_spans_108 ?_
          refine lv_ladd hx hb dX10_spans_111 ?_
          refine eb_last (n := 16) X hw 16 (by decide) rfl rfl (eb_inU (by decide) i0_ (eb_nle h1)) dX10_spans_112 (fun H locs hw => ?_)
          refine lv_goto (tgt := 222) hx hb dX10_spans_113 (by decide) ?_
          obtain ⟨x14, ex14⟩ : ∃ z : Int32, z = v1 + 1 := ⟨_, rfl⟩
          have hm : m_X10_spans_2  n (eb_pJ (eb_pJ (eb_pJ (eb_pJ σ 15 v1.toNatClampNeg 0) 16 v1.toNatClampNeg 0) 15 v1.toNatClampNeg (z4 * 4)) 16 v1.toNatClampNeg ((z4 * 4) + 4)) x14 = mm := by rw [ex14]; exact hm
          refine lv_iinc (v := x14) (lv' := [(1, .int x14), (3, .long z4), (2, .int x3), (0, .ref (ad 0))]) hx hb dX10_spans_222 hl (k := 3) rfl (by rw [ex14]; exact congrArg (v1 + ·) (by decide)) (by decide) rfl (fun ls hl => ?_)
          refine lv_goto (tgt := 2) hx hb dX10_spans_225 (by decide) ?_
          exact ih (eb_pJ (eb_pJ (eb_pJ (eb_pJ σ 15 v1.toNatClampNeg 0) 16 v1.toNatClampNeg 0) 15 v1.toNatClampNeg (z4 * 4)) 16 v1.toNatClampNeg ((z4 * 4) + 4)) x14 hj_ (eb_up i0_ (eb_nle h1) ex14 hn).1 (eb_up i0_ (eb_nle h1) ex14 hn).2 hm hw (lv_sub hl [3, 0] rfl)
      · have hm := (if_pos h5).symm.trans hm
        refine lv_aload_n hx hb dX10_spans_43 rfl (lv_at hl 2 rfl) ?_
        refine eb_get (T := TX10) X hw 0 33 (by decide) ⟨rfl, rfl, rfl⟩ (by decide) (fun _ h => List.mem_cons_of_mem _ (inlX10 _ h)) (List.mem_cons_of_mem _ wi_6_1) (v := .ref (ad 15)) rfl dX10_spans_44 ?_
        refine lv_iload_n hx hb dX10_spans_47 rfl (lv_at hl 3 rfl) ?_
        refine lv_iload_n hx hb dX10_spans_48 rfl (lv_at hl 3 rfl) ?_
        refine lv_if_ne (tgt := 56) hx hb dX10_spans_49 (by decide) (fun h15 => ?_) (fun h15 => ?_)
        · have hm := (if_neg h15).symm.trans hm
          refine lv_aload_n hx hb dX10_spans_56 rfl (lv_at hl 2 rfl) ?_
          refine lv_iload_n hx hb dX10_spans_57 rfl (lv_at hl 3 rfl) ?_
          refine lv_iconst (v := 1) hx hb dX10_spans_58 (by decide) ?_
          refine lv_isub hx hb dX10_spans_59 ?_
          obtain ⟨z16, qz16⟩ : ∃ t : Int64, t = m_X10_addressOf (eb_pJ (eb_pJ σ 15 v1.toNatClampNeg 0) 16 v1.toNatClampNeg 0) (v1 - 1) := ⟨_, rfl⟩
          have hm : (fun (x17 : Int32) => m_X10_spans_2  n (eb_pJ (eb_pJ (eb_pJ (eb_pJ σ 15 v1.toNatClampNeg 0) 16 v1.toNatClampNeg 0) 15 v1.toNatClampNeg (z16 * 4)) 16 v1.toNatClampNeg (z4 * 4)) x17) (v1 + 1) = mm := by rw [qz16]; exact hm
          have hc : eb_M l yX10_addressOf (Cond.code yX10_addressOf cX10_addressOf 2 (some .long) :: wsL_law) 2 42 D 18 cy rL ad (eb_pJ (eb_pJ σ 15 v1.toNatClampNeg 0) 16 v1.toNatClampNeg 0) [.ref (ad 0), .int (v1 - 1)] (some (.long z16)) (eb_pJ (eb_pJ σ 15 v1.toNatClampNeg 0) 16 v1.toNatClampNeg 0) := by rw [qz16]; exact c_X10_addressOf l D cy ad (eb_pJ (eb_pJ σ 15 v1.toNatClampNeg 0) 16 v1.toNatClampNeg 0) (v1 - 1) hj_ (eb_in_pred (eb_inU (by decide) i0_ (eb_nle h1)) h15)
          refine eb_callV (n := 1) (as := [.int (v1 - 1)]) (rest := [.int v1, .ref (ad 15)]) X hw hl.1 0 hc (by decide) ⟨rfl, rfl, rfl⟩ (eb_goodV wi_31_19 wi_31_20 wi_31_21 wi_1_5 wi_31_22) rfl (by decide +kernel) ⟨by decide, by decide⟩ rfl rfl (Nat.le_of_ble_eq_true rfl) dX10_spans_60 ⟨by decide, by decide⟩ (st' := [.long z16, .int v1, .ref (ad 15)]) rfl (fun H locs hw => ?_)
          refine lv_ldc2 hx hb hown (hts _ (List.mem_cons_of_mem _ wi_30_14)) dX10_spans_63 ?_
          refine lv_lmul hx hb dX10_spans_66 ?_
          refine eb_last (n := 16) X hw 15 (by decide) rfl rfl (eb_inU (by decide) i0_ (eb_nle h1)) dX10_spans_67 (fun H locs hw => ?_)
          refine lv_aload_n hx hb dX10_spans_68 rfl (lv_at hl 2 rfl) ?_
          refine eb_get (T := TX10) X hw 0 34 (by decide) ⟨rfl, rfl, rfl⟩ (by decide) (fun _ h => List.mem_cons_of_mem _ (inlX10 _ h)) (List.mem_cons_of_mem _ wi_6_2) (v := .ref (ad 16)) rfl dX10_spans_69 ?_
          refine lv_iload_n hx hb dX10_spans_72 rfl (lv_at hl 3 rfl) ?_
          refine lv_lload_n hx hb dX10_spans_73 rfl (lv_at hl 0 rfl) ?_
          refine lv_ldc2 hx hb hown (hts _ (List.mem_cons_of_mem _ wi_30_14)) dX10_spans_74 ?_
          refine lv_lmul hx hb dX10_spans_77 ?_
          refine eb_last (n := 16) X hw 16 (by decide) rfl rfl (eb_inU (by decide) i0_ (eb_nle h1)) dX10_spans_78 (fun H locs hw => ?_)
          refine lv_goto (tgt := 222) hx hb dX10_spans_79 (by decide) ?_
          obtain ⟨x17, ex17⟩ : ∃ z : Int32, z = v1 + 1 := ⟨_, rfl⟩
          have hm : m_X10_spans_2  n (eb_pJ (eb_pJ (eb_pJ (eb_pJ σ 15 v1.toNatClampNeg 0) 16 v1.toNatClampNeg 0) 15 v1.toNatClampNeg (z16 * 4)) 16 v1.toNatClampNeg (z4 * 4)) x17 = mm := by rw [ex17]; exact hm
          refine lv_iinc (v := x17) (lv' := [(1, .int x17), (3, .long z4), (2, .int x3), (0, .ref (ad 0))]) hx hb dX10_spans_222 hl (k := 3) rfl (by rw [ex17]; exact congrArg (v1 + ·) (by decide)) (by decide) rfl (fun ls hl => ?_)
          refine lv_goto (tgt := 2) hx hb dX10_spans_225 (by decide) ?_
          exact ih (eb_pJ (eb_pJ (eb_pJ (eb_pJ σ 15 v1.toNatClampNeg 0) 16 v1.toNatClampNeg 0) 15 v1.toNatClampNeg (z16 * 4)) 16 v1.toNatClampNeg (z4 * 4)) x17 hj_ (eb_up i0_ (eb_nle h1) ex17 hn).1 (eb_up i0_ (eb_nle h1) ex17 hn).2 hm hw (lv_sub hl [3, 0] rfl)
        · have hm := (if_pos h15).symm.trans hm
          refine lv_lconst (v := 0) hx hb dX10_spans_52 (by decide) ?_
          refine lv_goto (tgt := 67) hx hb dX10_spans_53 (by decide) ?_
          refine eb_last (n := 16) X hw 15 (by decide) rfl rfl (eb_inU (by decide) i0_ (eb_nle h1)) dX10_spans_67 (fun H locs hw => ?_)
          refine lv_aload_n hx hb dX10_spans_68 rfl (lv_at hl 2 rfl) ?_
          refine eb_get (T := TX10) X hw 0 34 (by decide) ⟨rfl, rfl, rfl⟩ (by decide) (fun _ h => List.mem_cons_of_mem _ (inlX10 _ h)) (List.mem_cons_of_mem _ wi_6_2) (v := .ref (ad 16)) rfl dX10_spans_69 ?_
          refine lv_iload_n hx hb dX10_spans_72 rfl (lv_at hl 3 rfl) ?_
          refine lv_lload_n hx hb dX10_spans_73 rfl (lv_at hl 0 rfl) ?_
          refine lv_ldc2 hx hb hown (hts _ (List.mem_cons_of_mem _ wi_30_14)) dX10_spans_74 ?_
          refine lv_lmul hx hb dX10_spans_77 ?_
          refine eb_last (n := 16) X hw 16 (by decide) rfl rfl (eb_inU (by decide) i0_ (eb_nle h1)) dX10_spans_78 (fun H locs hw => ?_)
          refine lv_goto (tgt := 222) hx hb dX10_spans_79 (by decide) ?_
          obtain ⟨x18, ex18⟩ : ∃ z : Int32, z = v1 + 1 := ⟨_, rfl⟩
          have hm : m_X10_spans_2  n (eb_pJ (eb_pJ (eb_pJ (eb_pJ σ 15 v1.toNatClampNeg 0) 16 v1.toNatClampNeg 0) 15 v1.toNatClampNeg 0) 16 v1.toNatClampNeg (z4 * 4)) x18 = mm := by rw [ex18]; exact hm
          refine lv_iinc (v := x18) (lv' := [(1, .int x18), (3, .long z4), (2, .int x3), (0, .ref (ad 0))]) hx hb dX10_spans_222 hl (k := 3) rfl (by rw [ex18]; exact congrArg (v1 + ·) (by decide)) (by decide) rfl (fun ls hl => ?_)
          refine lv_goto (tgt := 2) hx hb dX10_spans_225 (by decide) ?_
          exact ih (eb_pJ (eb_pJ (eb_pJ (eb_pJ σ 15 v1.toNatClampNeg 0) 16 v1.toNatClampNeg 0) 15 v1.toNatClampNeg 0) 16 v1.toNatClampNeg (z4 * 4)) x18 hj_ (eb_up i0_ (eb_nle h1) ex18 hn).1 (eb_up i0_ (eb_nle h1) ex18 hn).2 hm hw (lv_sub hl [3, 0] rfl)
set_option maxHeartbeats 4000000 in
set_option maxRecDepth 100000 in
theorem c_X10_spans (l : Launch) (D : va_G) (cy : Nat → ClassId) (ad : Nat → Nat) (σ : eb_St)  (hj_ : rJ σ) : eb_M l yX10_spans (Cond.code yX10_spans cX10_spans 10 none :: wsL_law) 3 63 D 18 cy rL ad σ [.ref (ad 0)] (none) (m_X10_spans σ) := by
  refine eb_start (own := RX10) (by decide) rfl rfl (Nat.le_of_ble_eq_true rfl) ?_
  intro p e s m args below meth c A ls X hw hl
  have hl : lv_has ls 10 [(0, .ref (ad 0))] := hl
  have hx := X.1.1
  have hb := X.1.2.1
  have hown := X.1.2.2.2.1
  have hts := X.1.2.2.2.2
  generalize hm : m_X10_spans σ = mm
  have hm : m_X10_spans_2  17 σ 0 = mm := hm
  refine lv_iconst (v := 0) hx hb dX10_spans_0 (by decide) ?_
  refine lv_istore_n (lv' := [(1, .int 0), (0, .ref (ad 0))]) hx hb dX10_spans_1 rfl hl (by decide) rfl (fun ls hl => ?_)
  exact k_X10_spans_2 X   17 σ 0 hj_ (by decide) (by decide) hm hw (lv_sub hl [1, 0] rfl)
