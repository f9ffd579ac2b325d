/-- what the law needs of a relation between the two sides' states: k counts the calls -/
def lw_R (Rel : Nat → eb_St → eb_St → Prop) : Prop :=
  (∀ k c r, Rel k c r → rJ r) ∧ (∀ k c r, Rel k c r → Rel (k + 1) c r) ∧
  (∀ k c r v, k < 512 → Rel k c r → Rel (k + 1) (m_X9_reset c v) (m_X10_reset r v)) ∧
  (∀ k c r a v, k < 512 → Rel k c r → (m_X9_poke c a v).1 = (m_X10_poke r a v).1 ∧ Rel (k + 1) (m_X9_poke c a v).2 (m_X10_poke r a v).2) ∧
  (∀ k c r a, k < 512 → Rel k c r → m_X9_peek c a = m_X10_peek r a) ∧
  (∀ k c r, k < 512 → Rel k c r → Rel (k + 1) (m_X9_interrupt c) (m_X10_interrupt r)) ∧
  (∀ k c r a, k < 512 → Rel k c r → (m_X9_run c a).1 = (m_X10_run r a).1 ∧ Rel (k + 1) (m_X9_run c a).2 (m_X10_run r a).2) ∧
  (∀ k c r a, k < 512 → Rel k c r → m_X9_register c a = m_X10_register r a) ∧
  (∀ k c r a, k < 512 → Rel k c r → m_X9_state c a = m_X10_state r a) ∧
  (∀ k c r a, k < 512 → Rel k c r → m_X9_held c a = m_X10_held r a) ∧
  (∀ k c r a b, k < 512 → Rel k c r → m_X9_pmp c a b = m_X10_pmp r a b) ∧
  (∀ k c r a b, k < 512 → Rel k c r → m_X9_enclave c a b = m_X10_enclave r a b) ∧
  (∀ k c r a b, k < 512 → Rel k c r → m_X9_eye c a b = m_X10_eye r a b)
theorem lw_le {L i : Nat} (hL : L ≤ 2049) (hi : i < 100000) (h : ¬ (Int32.ofNat L - 4 < nI i)) : i + 4 ≤ L := by
  rw [Int32.lt_iff_toInt_lt] at h
  have e : (Int32.ofNat L - 4).toInt = (L : Int) - 4 := pk_sub_toInt (a := L) (b := 4) (by omega) (by omega)
  rw [e, nI_toInt (by omega)] at h
  omega
theorem lw_in {L i j : Nat} {x : Int32} (hL : L ≤ 2049) (h : i + 4 ≤ L) (hj : j < 4) (e : x = nI (i + j)) : vp_in x L := by
  rw [e]; exact vp_in_nI (by omega) (by omega)

set_option maxHeartbeats 4000000 in
set_option maxRecDepth 100000 in
theorem law_loop {Rel : Nat → eb_St → eb_St → Prop} (hR : lw_R Rel) {p : Program} {l : Launch} {e : Env} {s : State} {m : MethodId} {below : List Frame} {meth : Method} {c : Code} {D : va_G} {cy : Nat → ClassId} {ac ar : Nat → Nat} {b L : Nat} {xs : Nat → Int32} {A : Nat → Prop} {z : Cond} {Q : State → Prop} {cells slots : Nat} (hL : L ≤ 2049) (X : eb_X p s m #[Value.ref b] meth c cL_law 4 RL (z :: wsL_law) (some .boolean) D cy A) (hX : va_X b L xs s s.heap) (hbl : b < s.heap.size) (hbA : ¬ A b) (hdis : ∀ i j, i < 33 → j < 18 → ac i ≠ ar j) (hcs : cells ≤ room_1.cells ∧ slots ≤ room_1.slots)
    (kend : ∀ (H : Heap) (locs : List Loc) (ls : Array Slot), va_S A s.heap H locs → W p l e room_1 s m #[Value.ref b] below meth c H locs cells slots Q (F0 m 455 ls [.int 1])) :
    ∀ (n k i : Nat) (cs rs : eb_St), i = 4 * k + 1 → k ≤ 512 → 513 - k < n → Rel k cs rs → ∀ {H : Heap} {locs : List Loc} {ls : Array Slot}, eb_H D 33 cy cL ac A s.heap cs H locs → va_P D vwCl (eb_W 18 cy rL ar rs) H → va_D A (eb_W 18 cy rL ar rs) → lv_has ls 4 [(0, .ref b), (1, .ref (ac 0)), (2, .ref (ar 0)), (3, .int (nI i))] → W p l e room_1 s m #[Value.ref b] below meth c H locs cells slots Q (F0 m 30 ls []) := by
  have hx := X.1.1
  have hb := X.1.2.1
  have hown := X.1.2.2.2.1
  have hts := X.1.2.2.2.2
  intro n
  induction n with
  | zero => intro k i cs rs _ _ hn; exact absurd hn (Nat.not_lt_zero _)
  | succ n ih =>
    intro k i cs rs hi hk0 hn hk H locs ls hw hP2 hD2 hl
    refine lv_iload_n hx hb dL_law_30 rfl (lv_at hl 3 rfl) ?_
    refine lv_aload_n hx hb dL_law_31 rfl (lv_at hl 0 rfl) ?_
    refine va_slen hx hb hX hbl hbA hw.2.2 dL_law_32 ?_
    refine lv_iconst (v := 4) hx hb dL_law_33 (by decide) ?_
    refine lv_isub hx hb dL_law_34 ?_
    refine lv_icmp_gt (tgt := 454) hx hb dL_law_35 (by decide) (fun _ => ?_) (fun hq => ?_)
    · refine lv_iconst (v := 1) hx hb dL_law_454 (by decide) ?_
      exact kend _ _ _ hw.2.2
    · have h4 : i + 4 ≤ L := lw_le hL (by omega) hq
      have hk5 : k < 512 := by omega
      refine lv_aload_n hx hb dL_law_38 rfl (lv_at hl 0 rfl) ?_
      refine lv_iload_n hx hb dL_law_39 rfl (lv_at hl 3 rfl) ?_
      refine va_sld hx hb hX hbl hbA hw.2.2 (lw_in hL h4 (j := 0) (by decide) rfl) dL_law_40 ?_
      refine lv_bipush (v := 15) hx hb dL_law_41 (by decide) ?_
      refine lv_iand hx hb dL_law_43 ?_
      refine lv_topi (fun sw esw => ?_)
      by_cases g0 : sw = 0
      · refine lv_tableIn (off := 60) (tgt := 104) hx hb dL_law_44 (by rw [g0]; decide) (by rw [g0]; decide) (by rw [g0]; rfl) (by decide) ?_
        refine lv_aload_n hx hb dL_law_104 rfl (lv_at hl 1 rfl) ?_
        refine lv_aload_n hx hb dL_law_105 rfl (lv_at hl 0 rfl) ?_
        refine lv_iload_n hx hb dL_law_106 rfl (lv_at hl 3 rfl) ?_
        refine lv_iconst (v := 1) hx hb dL_law_107 (by decide) ?_
        refine lv_iadd hx hb dL_law_108 ?_
        refine va_sld hx hb hX hbl hbA hw.2.2 (lw_in hL h4 (j := 1) (by decide) (nI_add i 1)) dL_law_109 ?_
        refine lv_i2l (v := (xs (nI i + 1).toNatClampNeg).toInt64) hx hb dL_law_110 rfl ?_
        refine lv_bipush (v := 32) hx hb dL_law_111 (by decide) ?_
        refine lv_lshl (v := eb_lshl ((xs (nI i + 1).toNatClampNeg).toInt64) 32) hx hb dL_law_113 rfl ?_
        refine lv_aload_n hx hb dL_law_114 rfl (lv_at hl 0 rfl) ?_
        refine lv_iload_n hx hb dL_law_115 rfl (lv_at hl 3 rfl) ?_
        refine lv_iconst (v := 2) hx hb dL_law_116 (by decide) ?_
        refine lv_iadd hx hb dL_law_117 ?_
        refine va_sld hx hb hX hbl hbA hw.2.2 (lw_in hL h4 (j := 2) (by decide) (nI_add i 2)) dL_law_118 ?_
        refine lv_i2l (v := (xs (nI i + 2).toNatClampNeg).toInt64) hx hb dL_law_119 rfl ?_
        refine lv_ldc2 hx hb hown (hts _ (List.mem_cons_of_mem _ wi_1_6)) dL_law_120 ?_
        refine lv_land hx hb dL_law_123 ?_
        refine lv_lor hx hb dL_law_124 ?_
        refine lw_callV (n := 1) (as := [.long ((eb_lshl ((xs (nI i + 1).toNatClampNeg).toInt64) 32) ||| (((xs (nI i + 2).toNatClampNeg).toInt64) &&& (4294967295)))]) (rest := []) X hw hP2 hdis hl.1 0 (c_X9_reset l D cy ac cs ((eb_lshl ((xs (nI i + 1).toNatClampNeg).toInt64) 32) ||| (((xs (nI i + 2).toNatClampNeg).toInt64) &&& (4294967295)))) (by decide) ⟨rfl, rfl, rfl⟩ (eb_goodV wi_6_5 wi_6_6 wi_6_7 wi_1_2 wi_6_8) rfl (by decide +kernel) ⟨by decide, by decide⟩ rfl rfl (Nat.le_of_ble_eq_true rfl) dL_law_125 hcs (st' := []) rfl (fun H locs hwn hPn => ?_)
        have hw : eb_H D 33 cy cL ac A s.heap (m_X9_reset cs ((eb_lshl ((xs (nI i + 1).toNatClampNeg).toInt64) 32) ||| (((xs (nI i + 2).toNatClampNeg).toInt64) &&& (4294967295)))) H locs := hwn
        have hP2 : va_P D vwCl (eb_W 18 cy rL ar rs) H := hPn
        refine lv_aload_n hx hb dL_law_128 rfl (lv_at hl 2 rfl) ?_
        refine lv_aload_n hx hb dL_law_129 rfl (lv_at hl 0 rfl) ?_
        refine lv_iload_n hx hb dL_law_130 rfl (lv_at hl 3 rfl) ?_
        refine lv_iconst (v := 1) hx hb dL_law_131 (by decide) ?_
        refine lv_iadd hx hb dL_law_132 ?_
        refine va_sld hx hb hX hbl hbA hw.2.2 (lw_in hL h4 (j := 1) (by decide) (nI_add i 1)) dL_law_133 ?_
        refine lv_i2l (v := (xs (nI i + 1).toNatClampNeg).toInt64) hx hb dL_law_134 rfl ?_
        refine lv_bipush (v := 32) hx hb dL_law_135 (by decide) ?_
        refine lv_lshl (v := eb_lshl ((xs (nI i + 1).toNatClampNeg).toInt64) 32) hx hb dL_law_137 rfl ?_
        refine lv_aload_n hx hb dL_law_138 rfl (lv_at hl 0 rfl) ?_
        refine lv_iload_n hx hb dL_law_139 rfl (lv_at hl 3 rfl) ?_
        refine lv_iconst (v := 2) hx hb dL_law_140 (by decide) ?_
        refine lv_iadd hx hb dL_law_141 ?_
        refine va_sld hx hb hX hbl hbA hw.2.2 (lw_in hL h4 (j := 2) (by decide) (nI_add i 2)) dL_law_142 ?_
        refine lv_i2l (v := (xs (nI i + 2).toNatClampNeg).toInt64) hx hb dL_law_143 rfl ?_
        refine lv_ldc2 hx hb hown (hts _ (List.mem_cons_of_mem _ wi_1_6)) dL_law_144 ?_
        refine lv_land hx hb dL_law_147 ?_
        refine lv_lor hx hb dL_law_148 ?_
        refine lw_callV (n := 1) (as := [.long ((eb_lshl ((xs (nI i + 1).toNatClampNeg).toInt64) 32) ||| (((xs (nI i + 2).toNatClampNeg).toInt64) &&& (4294967295)))]) (rest := []) X ⟨hP2, hD2, hw.2.2⟩ hw.1 (fun i j hi hj q => hdis j i hj hi q.symm) hl.1 0 (c_X10_reset l D cy ar rs ((eb_lshl ((xs (nI i + 1).toNatClampNeg).toInt64) 32) ||| (((xs (nI i + 2).toNatClampNeg).toInt64) &&& (4294967295))) (hR.1 _ _ _ hk)) (by decide) ⟨rfl, rfl, rfl⟩ (eb_goodV wi_9_4 wi_9_5 wi_9_6 wi_1_5 wi_9_7) rfl (by decide +kernel) ⟨by decide, by decide⟩ rfl rfl (Nat.le_of_ble_eq_true rfl) dL_law_149 hcs (st' := []) rfl (fun H locs hwn hPn => ?_)
        have hw : eb_H D 33 cy cL ac A s.heap (m_X9_reset cs ((eb_lshl ((xs (nI i + 1).toNatClampNeg).toInt64) 32) ||| (((xs (nI i + 2).toNatClampNeg).toInt64) &&& (4294967295)))) H locs := ⟨hPn, hw.2.1, hwn.2.2⟩
        have hP2 : va_P D vwCl (eb_W 18 cy rL ar (m_X10_reset rs ((eb_lshl ((xs (nI i + 1).toNatClampNeg).toInt64) 32) ||| (((xs (nI i + 2).toNatClampNeg).toInt64) &&& (4294967295))))) H := hwn.1
        have hD2 : va_D A (eb_W 18 cy rL ar (m_X10_reset rs ((eb_lshl ((xs (nI i + 1).toNatClampNeg).toInt64) 32) ||| (((xs (nI i + 2).toNatClampNeg).toInt64) &&& (4294967295))))) := hwn.2.1
        refine lv_goto (tgt := 448) hx hb dL_law_152 (by decide) ?_
        refine lv_iinc (v := nI (i + 4)) (lv' := [(3, .int (nI (i + 4))), (0, .ref b), (1, .ref (ac 0)), (2, .ref (ar 0))]) hx hb dL_law_448 hl (k := 3) rfl (by rw [show Int32.ofInt 4 = nI 4 by decide]; exact nI_add i 4) (by decide) rfl (fun ls hl => ?_)
        refine lv_goto (tgt := 30) hx hb dL_law_451 (by decide) ?_
        exact ih (k + 1) (i + 4) (m_X9_reset cs ((eb_lshl ((xs (nI i + 1).toNatClampNeg).toInt64) 32) ||| (((xs (nI i + 2).toNatClampNeg).toInt64) &&& (4294967295)))) (m_X10_reset rs ((eb_lshl ((xs (nI i + 1).toNatClampNeg).toInt64) 32) ||| (((xs (nI i + 2).toNatClampNeg).toInt64) &&& (4294967295)))) (by omega) (by omega) (by omega) (hR.2.2.1 k _ _ ((eb_lshl ((xs (nI i + 1).toNatClampNeg).toInt64) 32) ||| (((xs (nI i + 2).toNatClampNeg).toInt64) &&& (4294967295))) hk5 hk) hw hP2 hD2 (lv_sub hl [1, 2, 3, 0] rfl)
      by_cases g1 : sw = 1
      · refine lv_tableIn (off := 111) (tgt := 155) hx hb dL_law_44 (by rw [g1]; decide) (by rw [g1]; decide) (by rw [g1]; rfl) (by decide) ?_
        refine lv_aload_n hx hb dL_law_155 rfl (lv_at hl 1 rfl) ?_
        refine lv_aload_n hx hb dL_law_156 rfl (lv_at hl 0 rfl) ?_
        refine lv_iload_n hx hb dL_law_157 rfl (lv_at hl 3 rfl) ?_
        refine lv_iconst (v := 1) hx hb dL_law_158 (by decide) ?_
        refine lv_iadd hx hb dL_law_159 ?_
        refine va_sld hx hb hX hbl hbA hw.2.2 (lw_in hL h4 (j := 1) (by decide) (nI_add i 1)) dL_law_160 ?_
        refine lv_aload_n hx hb dL_law_161 rfl (lv_at hl 0 rfl) ?_
        refine lv_iload_n hx hb dL_law_162 rfl (lv_at hl 3 rfl) ?_
        refine lv_iconst (v := 2) hx hb dL_law_163 (by decide) ?_
        refine lv_iadd hx hb dL_law_164 ?_
        refine va_sld hx hb hX hbl hbA hw.2.2 (lw_in hL h4 (j := 2) (by decide) (nI_add i 2)) dL_law_165 ?_
        refine lv_i2l (v := (xs (nI i + 2).toNatClampNeg).toInt64) hx hb dL_law_166 rfl ?_
        refine lv_bipush (v := 32) hx hb dL_law_167 (by decide) ?_
        refine lv_lshl (v := eb_lshl ((xs (nI i + 2).toNatClampNeg).toInt64) 32) hx hb dL_law_169 rfl ?_
        refine lv_aload_n hx hb dL_law_170 rfl (lv_at hl 0 rfl) ?_
        refine lv_iload_n hx hb dL_law_171 rfl (lv_at hl 3 rfl) ?_
        refine lv_iconst (v := 3) hx hb dL_law_172 (by decide) ?_
        refine lv_iadd hx hb dL_law_173 ?_
        refine va_sld hx hb hX hbl hbA hw.2.2 (lw_in hL h4 (j := 3) (by decide) (nI_add i 3)) dL_law_174 ?_
        refine lv_i2l (v := (xs (nI i + 3).toNatClampNeg).toInt64) hx hb dL_law_175 rfl ?_
        refine lv_ldc2 hx hb hown (hts _ (List.mem_cons_of_mem _ wi_1_6)) dL_law_176 ?_
        refine lv_land hx hb dL_law_179 ?_
        refine lv_lor hx hb dL_law_180 ?_
        refine lw_callV (n := 2) (as := [.int (xs (nI i + 1).toNatClampNeg), .long ((eb_lshl ((xs (nI i + 2).toNatClampNeg).toInt64) 32) ||| (((xs (nI i + 3).toNatClampNeg).toInt64) &&& (4294967295)))]) (rest := []) X hw hP2 hdis hl.1 0 (c_X9_poke l D cy ac cs (xs (nI i + 1).toNatClampNeg) ((eb_lshl ((xs (nI i + 2).toNatClampNeg).toInt64) 32) ||| (((xs (nI i + 3).toNatClampNeg).toInt64) &&& (4294967295)))) (by decide) ⟨rfl, rfl, rfl⟩ (eb_goodV wi_10_6 wi_10_7 wi_10_8 wi_1_2 wi_10_9) rfl (by decide +kernel) ⟨by decide, by decide⟩ rfl rfl (Nat.le_of_ble_eq_true rfl) dL_law_181 hcs (st' := [.int (eb_b ((m_X9_poke cs (xs (nI i + 1).toNatClampNeg) ((eb_lshl ((xs (nI i + 2).toNatClampNeg).toInt64) 32) ||| (((xs (nI i + 3).toNatClampNeg).toInt64) &&& (4294967295)))).1))]) rfl (fun H locs hwn hPn => ?_)
        have hw : eb_H D 33 cy cL ac A s.heap ((m_X9_poke cs (xs (nI i + 1).toNatClampNeg) ((eb_lshl ((xs (nI i + 2).toNatClampNeg).toInt64) 32) ||| (((xs (nI i + 3).toNatClampNeg).toInt64) &&& (4294967295)))).2) H locs := hwn
        have hP2 : va_P D vwCl (eb_W 18 cy rL ar rs) H := hPn
        refine lv_aload_n hx hb dL_law_184 rfl (lv_at hl 2 rfl) ?_
        refine lv_aload_n hx hb dL_law_185 rfl (lv_at hl 0 rfl) ?_
        refine lv_iload_n hx hb dL_law_186 rfl (lv_at hl 3 rfl) ?_
        refine lv_iconst (v := 1) hx hb dL_law_187 (by decide) ?_
        refine lv_iadd hx hb dL_law_188 ?_
        refine va_sld hx hb hX hbl hbA hw.2.2 (lw_in hL h4 (j := 1) (by decide) (nI_add i 1)) dL_law_189 ?_
        refine lv_aload_n hx hb dL_law_190 rfl (lv_at hl 0 rfl) ?_
        refine lv_iload_n hx hb dL_law_191 rfl (lv_at hl 3 rfl) ?_
        refine lv_iconst (v := 2) hx hb dL_law_192 (by decide) ?_
        refine lv_iadd hx hb dL_law_193 ?_
        refine va_sld hx hb hX hbl hbA hw.2.2 (lw_in hL h4 (j := 2) (by decide) (nI_add i 2)) dL_law_194 ?_
        refine lv_i2l (v := (xs (nI i + 2).toNatClampNeg).toInt64) hx hb dL_law_195 rfl ?_
        refine lv_bipush (v := 32) hx hb dL_law_196 (by decide) ?_
        refine lv_lshl (v := eb_lshl ((xs (nI i + 2).toNatClampNeg).toInt64) 32) hx hb dL_law_198 rfl ?_
        refine lv_aload_n hx hb dL_law_199 rfl (lv_at hl 0 rfl) ?_
        refine lv_iload_n hx hb dL_law_200 rfl (lv_at hl 3 rfl) ?_
        refine lv_iconst (v := 3) hx hb dL_law_201 (by decide) ?_
        refine lv_iadd hx hb dL_law_202 ?_
        refine va_sld hx hb hX hbl hbA hw.2.2 (lw_in hL h4 (j := 3) (by decide) (nI_add i 3)) dL_law_203 ?_
        refine lv_i2l (v := (xs (nI i + 3).toNatClampNeg).toInt64) hx hb dL_law_204 rfl ?_
        refine lv_ldc2 hx hb hown (hts _ (List.mem_cons_of_mem _ wi_1_6)) dL_law_205 ?_
        refine lv_land hx hb dL_law_208 ?_
        refine lv_lor hx hb dL_law_209 ?_
        refine lw_callV (n := 2) (as := [.int (xs (nI i + 1).toNatClampNeg), .long ((eb_lshl ((xs (nI i + 2).toNatClampNeg).toInt64) 32) ||| (((xs (nI i + 3).toNatClampNeg).toInt64) &&& (4294967295)))]) (rest := [.int (eb_b ((m_X9_poke cs (xs (nI i + 1).toNatClampNeg) ((eb_lshl ((xs (nI i + 2).toNatClampNeg).toInt64) 32) ||| (((xs (nI i + 3).toNatClampNeg).toInt64) &&& (4294967295)))).1))]) X ⟨hP2, hD2, hw.2.2⟩ hw.1 (fun i j hi hj q => hdis j i hj hi q.symm) hl.1 0 (c_X10_poke l D cy ar rs (xs (nI i + 1).toNatClampNeg) ((eb_lshl ((xs (nI i + 2).toNatClampNeg).toInt64) 32) ||| (((xs (nI i + 3).toNatClampNeg).toInt64) &&& (4294967295))) (hR.1 _ _ _ hk)) (by decide) ⟨rfl, rfl, rfl⟩ (eb_goodV wi_11_0 wi_11_1 wi_11_2 wi_1_5 wi_11_3) rfl (by decide +kernel) ⟨by decide, by decide⟩ rfl rfl (Nat.le_of_ble_eq_true rfl) dL_law_210 hcs (st' := [.int (eb_b ((m_X10_poke rs (xs (nI i + 1).toNatClampNeg) ((eb_lshl ((xs (nI i + 2).toNatClampNeg).toInt64) 32) ||| (((xs (nI i + 3).toNatClampNeg).toInt64) &&& (4294967295)))).1)), .int (eb_b ((m_X9_poke cs (xs (nI i + 1).toNatClampNeg) ((eb_lshl ((xs (nI i + 2).toNatClampNeg).toInt64) 32) ||| (((xs (nI i + 3).toNatClampNeg).toInt64) &&& (4294967295)))).1))]) rfl (fun H locs hwn hPn => ?_)
        have hw : eb_H D 33 cy cL ac A s.heap ((m_X9_poke cs (xs (nI i + 1).toNatClampNeg) ((eb_lshl ((xs (nI i + 2).toNatClampNeg).toInt64) 32) ||| (((xs (nI i + 3).toNatClampNeg).toInt64) &&& (4294967295)))).2) H locs := ⟨hPn, hw.2.1, hwn.2.2⟩
        have hP2 : va_P D vwCl (eb_W 18 cy rL ar ((m_X10_poke rs (xs (nI i + 1).toNatClampNeg) ((eb_lshl ((xs (nI i + 2).toNatClampNeg).toInt64) 32) ||| (((xs (nI i + 3).toNatClampNeg).toInt64) &&& (4294967295)))).2)) H := hwn.1
        have hD2 : va_D A (eb_W 18 cy rL ar ((m_X10_poke rs (xs (nI i + 1).toNatClampNeg) ((eb_lshl ((xs (nI i + 2).toNatClampNeg).toInt64) 32) ||| (((xs (nI i + 3).toNatClampNeg).toInt64) &&& (4294967295)))).2)) := hwn.2.1
        have he := (hR.2.2.2.1 k _ _ (xs (nI i + 1).toNatClampNeg) ((eb_lshl ((xs (nI i + 2).toNatClampNeg).toInt64) 32) ||| (((xs (nI i + 3).toNatClampNeg).toInt64) &&& (4294967295))) hk5 hk).1
        refine lv_icmp_eq (tgt := 448) hx hb dL_law_213 (by decide) (fun _ => ?_) (fun hq => absurd (by rw [he]) hq)
        refine lv_iinc (v := nI (i + 4)) (lv' := [(3, .int (nI (i + 4))), (0, .ref b), (1, .ref (ac 0)), (2, .ref (ar 0))]) hx hb dL_law_448 hl (k := 3) rfl (by rw [show Int32.ofInt 4 = nI 4 by decide]; exact nI_add i 4) (by decide) rfl (fun ls hl => ?_)
        refine lv_goto (tgt := 30) hx hb dL_law_451 (by decide) ?_
        exact ih (k + 1) (i + 4) ((m_X9_poke cs (xs (nI i + 1).toNatClampNeg) ((eb_lshl ((xs (nI i + 2).toNatClampNeg).toInt64) 32) ||| (((xs (nI i + 3).toNatClampNeg).toInt64) &&& (4294967295)))).2) ((m_X10_poke rs (xs (nI i + 1).toNatClampNeg) ((eb_lshl ((xs (nI i + 2).toNatClampNeg).toInt64) 32) ||| (((xs (nI i + 3).toNatClampNeg).toInt64) &&& (4294967295)))).2) (by omega) (by omega) (by omega) (hR.2.2.2.1 k _ _ (xs (nI i + 1).toNatClampNeg) ((eb_lshl ((xs (nI i + 2).toNatClampNeg).toInt64) 32) ||| (((xs (nI i + 3).toNatClampNeg).toInt64) &&& (4294967295))) hk5 hk).2 hw hP2 hD2 (lv_sub hl [1, 2, 3, 0] rfl)
      by_cases g2 : sw = 2
      · refine lv_tableIn (off := 174) (tgt := 218) hx hb dL_law_44 (by rw [g2]; decide) (by rw [g2]; decide) (by rw [g2]; rfl) (by decide) ?_
        refine lv_aload_n hx hb dL_law_218 rfl (lv_at hl 1 rfl) ?_
        refine lv_aload_n hx hb dL_law_219 rfl (lv_at hl 0 rfl) ?_
        refine lv_iload_n hx hb dL_law_220 rfl (lv_at hl 3 rfl) ?_
        refine lv_iconst (v := 1) hx hb dL_law_221 (by decide) ?_
        refine lv_iadd hx hb dL_law_222 ?_
        refine va_sld hx hb hX hbl hbA hw.2.2 (lw_in hL h4 (j := 1) (by decide) (nI_add i 1)) dL_law_223 ?_
        refine lw_callV (n := 1) (as := [.int (xs (nI i + 1).toNatClampNeg)]) (rest := []) X hw hP2 hdis hl.1 0 (c_X9_peek l D cy ac cs (xs (nI i + 1).toNatClampNeg)) (by decide) ⟨rfl, rfl, rfl⟩ (eb_goodV wi_11_12 wi_11_13 wi_11_14 wi_1_2 wi_11_15) rfl (by decide +kernel) ⟨by decide, by decide⟩ rfl rfl (Nat.le_of_ble_eq_true rfl) dL_law_224 hcs (st' := [.long (m_X9_peek cs (xs (nI i + 1).toNatClampNeg))]) rfl (fun H locs hwn hPn => ?_)
        have hw : eb_H D 33 cy cL ac A s.heap cs H locs := hwn
        have hP2 : va_P D vwCl (eb_W 18 cy rL ar rs) H := hPn
        refine lv_aload_n hx hb dL_law_227 rfl (lv_at hl 2 rfl) ?_
        refine lv_aload_n hx hb dL_law_228 rfl (lv_at hl 0 rfl) ?_
        refine lv_iload_n hx hb dL_law_229 rfl (lv_at hl 3 rfl) ?_
        refine lv_iconst (v := 1) hx hb dL_law_230 (by decide) ?_
        refine lv_iadd hx hb dL_law_231 ?_
        refine va_sld hx hb hX hbl hbA hw.2.2 (lw_in hL h4 (j := 1) (by decide) (nI_add i 1)) dL_law_232 ?_
        refine lw_callV (n := 1) (as := [.int (xs (nI i + 1).toNatClampNeg)]) (rest := [.long (m_X9_peek cs (xs (nI i + 1).toNatClampNeg))]) X ⟨hP2, hD2, hw.2.2⟩ hw.1 (fun i j hi hj q => hdis j i hj hi q.symm) hl.1 0 (c_X10_peek l D cy ar rs (xs (nI i + 1).toNatClampNeg)) (by decide) ⟨rfl, rfl, rfl⟩ (eb_goodV wi_11_20 wi_11_21 wi_11_22 wi_1_5 wi_11_23) rfl (by decide +kernel) ⟨by decide, by decide⟩ rfl rfl (Nat.le_of_ble_eq_true rfl) dL_law_233 hcs (st' := [.long (m_X10_peek rs (xs (nI i + 1).toNatClampNeg)), .long (m_X9_peek cs (xs (nI i + 1).toNatClampNeg))]) rfl (fun H locs hwn hPn => ?_)
        have hw : eb_H D 33 cy cL ac A s.heap cs H locs := ⟨hPn, hw.2.1, hwn.2.2⟩
        have hP2 : va_P D vwCl (eb_W 18 cy rL ar rs) H := hwn.1
        have hD2 : va_D A (eb_W 18 cy rL ar rs) := hwn.2.1
        have he := hR.2.2.2.2.1 k _ _ (xs (nI i + 1).toNatClampNeg) hk5 hk
        refine eb_lif_eq (tgt := 448) hx hb dL_law_236 dL_law_237 (by decide) (fun _ => ?_) (fun hq => absurd he hq)
        refine lv_iinc (v := nI (i + 4)) (lv' := [(3, .int (nI (i + 4))), (0, .ref b), (1, .ref (ac 0)), (2, .ref (ar 0))]) hx hb dL_law_448 hl (k := 3) rfl (by rw [show Int32.ofInt 4 = nI 4 by decide]; exact nI_add i 4) (by decide) rfl (fun ls hl => ?_)
        refine lv_goto (tgt := 30) hx hb dL_law_451 (by decide) ?_
        exact ih (k + 1) (i + 4) cs rs (by omega) (by omega) (by omega) (hR.2.1 _ _ _ hk) hw hP2 hD2 (lv_sub hl [1, 2, 3, 0] rfl)
      by_cases g3 : sw = 3
      · refine lv_tableIn (off := 198) (tgt := 242) hx hb dL_law_44 (by rw [g3]; decide) (by rw [g3]; decide) (by rw [g3]; rfl) (by decide) ?_
        refine lv_aload_n hx hb dL_law_242 rfl (lv_at hl 1 rfl) ?_
        refine lw_callV (n := 0) (as := []) (rest := []) X hw hP2 hdis hl.1 0 (c_X9_interrupt l D cy ac cs) (by decide) ⟨rfl, rfl, rfl⟩ (eb_goodV wi_12_4 wi_12_5 wi_12_6 wi_1_2 wi_12_7) rfl (by decide +kernel) ⟨by decide, by decide⟩ rfl rfl (Nat.le_of_ble_eq_true rfl) dL_law_243 hcs (st' := []) rfl (fun H locs hwn hPn => ?_)
        have hw : eb_H D 33 cy cL ac A s.heap (m_X9_interrupt cs) H locs := hwn
        have hP2 : va_P D vwCl (eb_W 18 cy rL ar rs) H := hPn
        refine lv_aload_n hx hb dL_law_246 rfl (lv_at hl 2 rfl) ?_
        refine lw_callV (n := 0) (as := []) (rest := []) X ⟨hP2, hD2, hw.2.2⟩ hw.1 (fun i j hi hj q => hdis j i hj hi q.symm) hl.1 0 (c_X10_interrupt l D cy ar rs (hR.1 _ _ _ hk)) (by decide) ⟨rfl, rfl, rfl⟩ (eb_goodV wi_12_9 wi_12_10 wi_12_11 wi_1_5 wi_12_12) rfl (by decide +kernel) ⟨by decide, by decide⟩ rfl rfl (Nat.le_of_ble_eq_true rfl) dL_law_247 hcs (st' := []) rfl (fun H locs hwn hPn => ?_)
        have hw : eb_H D 33 cy cL ac A s.heap (m_X9_interrupt cs) H locs := ⟨hPn, hw.2.1, hwn.2.2⟩
        have hP2 : va_P D vwCl (eb_W 18 cy rL ar (m_X10_interrupt rs)) H := hwn.1
        have hD2 : va_D A (eb_W 18 cy rL ar (m_X10_interrupt rs)) := hwn.2.1
        refine lv_goto (tgt := 448) hx hb dL_law_250 (by decide) ?_
        refine lv_iinc (v := nI (i + 4)) (lv' := [(3, .int (nI (i + 4))), (0, .ref b), (1, .ref (ac 0)), (2, .ref (ar 0))]) hx hb dL_law_448 hl (k := 3) rfl (by rw [show Int32.ofInt 4 = nI 4 by decide]; exact nI_add i 4) (by decide) rfl (fun ls hl => ?_)
        refine lv_goto (tgt := 30) hx hb dL_law_451 (by decide) ?_
        exact ih (k + 1) (i + 4) (m_X9_interrupt cs) (m_X10_interrupt rs) (by omega) (by omega) (by omega) (hR.2.2.2.2.2.1 k _ _ hk5 hk) hw hP2 hD2 (lv_sub hl [1, 2, 3, 0] rfl)
      by_cases g4 : sw = 4
      · refine lv_tableIn (off := 209) (tgt := 253) hx hb dL_law_44 (by rw [g4]; decide) (by rw [g4]; decide) (by rw [g4]; rfl) (by decide) ?_
        refine lv_aload_n hx hb dL_law_253 rfl (lv_at hl 1 rfl) ?_
        refine lv_aload_n hx hb dL_law_254 rfl (lv_at hl 0 rfl) ?_
        refine lv_iload_n hx hb dL_law_255 rfl (lv_at hl 3 rfl) ?_
        refine lv_iconst (v := 1) hx hb dL_law_256 (by decide) ?_
        refine lv_iadd hx hb dL_law_257 ?_
        refine va_sld hx hb hX hbl hbA hw.2.2 (lw_in hL h4 (j := 1) (by decide) (nI_add i 1)) dL_law_258 ?_
        refine lw_callV (n := 1) (as := [.int (xs (nI i + 1).toNatClampNeg)]) (rest := []) X hw hP2 hdis hl.1 0 (c_X9_run l D cy ac cs (xs (nI i + 1).toNatClampNeg)) (by decide) ⟨rfl, rfl, rfl⟩ (eb_goodV wi_12_13 wi_12_14 wi_12_15 wi_1_2 wi_12_16) rfl (by decide +kernel) ⟨by decide, by decide⟩ rfl rfl (Nat.le_of_ble_eq_true rfl) dL_law_259 hcs (st' := [.int ((m_X9_run cs (xs (nI i + 1).toNatClampNeg)).1)]) rfl (fun H locs hwn hPn => ?_)
        have hw : eb_H D 33 cy cL ac A s.heap ((m_X9_run cs (xs (nI i + 1).toNatClampNeg)).2) H locs := hwn
        have hP2 : va_P D vwCl (eb_W 18 cy rL ar rs) H := hPn
        refine lv_aload_n hx hb dL_law_262 rfl (lv_at hl 2 rfl) ?_
        refine lv_aload_n hx hb dL_law_263 rfl (lv_at hl 0 rfl) ?_
        refine lv_iload_n hx hb dL_law_264 rfl (lv_at hl 3 rfl) ?_
        refine lv_iconst (v := 1) hx hb dL_law_265 (by decide) ?_
        refine lv_iadd hx hb dL_law_266 ?_
        refine va_sld hx hb hX hbl hbA hw.2.2 (lw_in hL h4 (j := 1) (by decide) (nI_add i 1)) dL_law_267 ?_
        refine lw_callV (n := 1) (as := [.int (xs (nI i + 1).toNatClampNeg)]) (rest := [.int ((m_X9_run cs (xs (nI i + 1).toNatClampNeg)).1)]) X ⟨hP2, hD2, hw.2.2⟩ hw.1 (fun i j hi hj q => hdis j i hj hi q.symm) hl.1 0 (c_X10_run l D cy ar rs (xs (nI i + 1).toNatClampNeg) (hR.1 _ _ _ hk)) (by decide) ⟨rfl, rfl, rfl⟩ (eb_goodV wi_29_4 wi_29_5 wi_29_6 wi_1_5 wi_29_7) rfl (by decide +kernel) ⟨by decide, by decide⟩ rfl rfl (Nat.le_of_ble_eq_true rfl) dL_law_268 hcs (st' := [.int ((m_X10_run rs (xs (nI i + 1).toNatClampNeg)).1), .int ((m_X9_run cs (xs (nI i + 1).toNatClampNeg)).1)]) rfl (fun H locs hwn hPn => ?_)
        have hw : eb_H D 33 cy cL ac A s.heap ((m_X9_run cs (xs (nI i + 1).toNatClampNeg)).2) H locs := ⟨hPn, hw.2.1, hwn.2.2⟩
        have hP2 : va_P D vwCl (eb_W 18 cy rL ar ((m_X10_run rs (xs (nI i + 1).toNatClampNeg)).2)) H := hwn.1
        have hD2 : va_D A (eb_W 18 cy rL ar ((m_X10_run rs (xs (nI i + 1).toNatClampNeg)).2)) := hwn.2.1
        have he := (hR.2.2.2.2.2.2.1 k _ _ (xs (nI i + 1).toNatClampNeg) hk5 hk).1
        refine lv_icmp_eq (tgt := 448) hx hb dL_law_271 (by decide) (fun _ => ?_) (fun hq => absurd (by rw [he]) hq)
        refine lv_iinc (v := nI (i + 4)) (lv' := [(3, .int (nI (i + 4))), (0, .ref b), (1, .ref (ac 0)), (2, .ref (ar 0))]) hx hb dL_law_448 hl (k := 3) rfl (by rw [show Int32.ofInt 4 = nI 4 by decide]; exact nI_add i 4) (by decide) rfl (fun ls hl => ?_)
        refine lv_goto (tgt := 30) hx hb dL_law_451 (by decide) ?_
        exact ih (k + 1) (i + 4) ((m_X9_run cs (xs (nI i + 1).toNatClampNeg)).2) ((m_X10_run rs (xs (nI i + 1).toNatClampNeg)).2) (by omega) (by omega) (by omega) (hR.2.2.2.2.2.2.1 k _ _ (xs (nI i + 1).toNatClampNeg) hk5 hk).2 hw hP2 hD2 (lv_sub hl [1, 2, 3, 0] rfl)
      by_cases g5 : sw = 5
      · refine lv_tableIn (off := 232) (tgt := 276) hx hb dL_law_44 (by rw [g5]; decide) (by rw [g5]; decide) (by rw [g5]; rfl) (by decide) ?_
        refine lv_aload_n hx hb dL_law_276 rfl (lv_at hl 1 rfl) ?_
        refine lv_aload_n hx hb dL_law_277 rfl (lv_at hl 0 rfl) ?_
        refine lv_iload_n hx hb dL_law_278 rfl (lv_at hl 3 rfl) ?_
        refine lv_iconst (v := 1) hx hb dL_law_279 (by decide) ?_
        refine lv_iadd hx hb dL_law_280 ?_
        refine va_sld hx hb hX hbl hbA hw.2.2 (lw_in hL h4 (j := 1) (by decide) (nI_add i 1)) dL_law_281 ?_
        refine lw_callV (n := 1) (as := [.int (xs (nI i + 1).toNatClampNeg)]) (rest := []) X hw hP2 hdis hl.1 0 (c_X9_register l D cy ac cs (xs (nI i + 1).toNatClampNeg)) (by decide) ⟨rfl, rfl, rfl⟩ (eb_goodV wi_38_20 wi_38_21 wi_38_22 wi_1_2 wi_38_23) rfl (by decide +kernel) ⟨by decide, by decide⟩ rfl rfl (Nat.le_of_ble_eq_true rfl) dL_law_282 hcs (st' := [.long (m_X9_register cs (xs (nI i + 1).toNatClampNeg))]) rfl (fun H locs hwn hPn => ?_)
        have hw : eb_H D 33 cy cL ac A s.heap cs H locs := hwn
        have hP2 : va_P D vwCl (eb_W 18 cy rL ar rs) H := hPn
        refine lv_aload_n hx hb dL_law_285 rfl (lv_at hl 2 rfl) ?_
        refine lv_aload_n hx hb dL_law_286 rfl (lv_at hl 0 rfl) ?_
        refine lv_iload_n hx hb dL_law_287 rfl (lv_at hl 3 rfl) ?_
        refine lv_iconst (v := 1) hx hb dL_law_288 (by decide) ?_
        refine lv_iadd hx hb dL_law_289 ?_
        refine va_sld hx hb hX hbl hbA hw.2.2 (lw_in hL h4 (j := 1) (by decide) (nI_add i 1)) dL_law_290 ?_
        refine lw_callV (n := 1) (as := [.int (xs (nI i + 1).toNatClampNeg)]) (rest := [.long (m_X9_register cs (xs (nI i + 1).toNatClampNeg))]) X ⟨hP2, hD2, hw.2.2⟩ hw.1 (fun i j hi hj q => hdis j i hj hi q.symm) hl.1 0 (c_X10_register l D cy ar rs (xs (nI i + 1).toNatClampNeg)) (by decide) ⟨rfl, rfl, rfl⟩ (eb_goodV wi_39_1 wi_39_2 wi_39_3 wi_1_5 wi_39_4) rfl (by decide +kernel) ⟨by decide, by decide⟩ rfl rfl (Nat.le_of_ble_eq_true rfl) dL_law_291 hcs (st' := [.long (m_X10_register rs (xs (nI i + 1).toNatClampNeg)), .long (m_X9_register cs (xs (nI i + 1).toNatClampNeg))]) rfl (fun H locs hwn hPn => ?_)
        have hw : eb_H D 33 cy cL ac A s.heap cs H locs := ⟨hPn, hw.2.1, hwn.2.2⟩
        have hP2 : va_P D vwCl (eb_W 18 cy rL ar rs) H := hwn.1
        have hD2 : va_D A (eb_W 18 cy rL ar rs) := hwn.2.1
        have he := hR.2.2.2.2.2.2.2.1 k _ _ (xs (nI i + 1).toNatClampNeg) hk5 hk
        refine eb_lif_eq (tgt := 448) hx hb dL_law_294 dL_law_295 (by decide) (fun _ => ?_) (fun hq => absurd he hq)
        refine lv_iinc (v := nI (i + 4)) (lv' := [(3, .int (nI (i + 4))), (0, .ref b), (1, .ref (ac 0)), (2, .ref (ar 0))]) hx hb dL_law_448 hl (k := 3) rfl (by rw [show Int32.ofInt 4 = nI 4 by decide]; exact nI_add i 4) (by decide) rfl (fun ls hl => ?_)
        refine lv_goto (tgt := 30) hx hb dL_law_451 (by decide) ?_
        exact ih (k + 1) (i + 4) cs rs (by omega) (by omega) (by omega) (hR.2.1 _ _ _ hk) hw hP2 hD2 (lv_sub hl [1, 2, 3, 0] rfl)
      by_cases g6 : sw = 6
      · refine lv_tableIn (off := 256) (tgt := 300) hx hb dL_law_44 (by rw [g6]; decide) (by rw [g6]; decide) (by rw [g6]; rfl) (by decide) ?_
        refine lv_aload_n hx hb dL_law_300 rfl (lv_at hl 1 rfl) ?_
        refine lv_aload_n hx hb dL_law_301 rfl (lv_at hl 0 rfl) ?_
        refine lv_iload_n hx hb dL_law_302 rfl (lv_at hl 3 rfl) ?_
        refine lv_iconst (v := 1) hx hb dL_law_303 (by decide) ?_
        refine lv_iadd hx hb dL_law_304 ?_
        refine va_sld hx hb hX hbl hbA hw.2.2 (lw_in hL h4 (j := 1) (by decide) (nI_add i 1)) dL_law_305 ?_
        refine lw_callV (n := 1) (as := [.int (xs (nI i + 1).toNatClampNeg)]) (rest := []) X hw hP2 hdis hl.1 0 (c_X9_state l D cy ac cs (xs (nI i + 1).toNatClampNeg)) (by decide) ⟨rfl, rfl, rfl⟩ (eb_goodV wi_39_5 wi_39_6 wi_39_7 wi_1_2 wi_39_8) rfl (by decide +kernel) ⟨by decide, by decide⟩ rfl rfl (Nat.le_of_ble_eq_true rfl) dL_law_306 hcs (st' := [.int (m_X9_state cs (xs (nI i + 1).toNatClampNeg))]) rfl (fun H locs hwn hPn => ?_)
        have hw : eb_H D 33 cy cL ac A s.heap cs H locs := hwn
        have hP2 : va_P D vwCl (eb_W 18 cy rL ar rs) H := hPn
        refine lv_aload_n hx hb dL_law_309 rfl (lv_at hl 2 rfl) ?_
        refine lv_aload_n hx hb dL_law_310 rfl (lv_at hl 0 rfl) ?_
        refine lv_iload_n hx hb dL_law_311 rfl (lv_at hl 3 rfl) ?_
        refine lv_iconst (v := 1) hx hb dL_law_312 (by decide) ?_
        refine lv_iadd hx hb dL_law_313 ?_
        refine va_sld hx hb hX hbl hbA hw.2.2 (lw_in hL h4 (j := 1) (by decide) (nI_add i 1)) dL_law_314 ?_
        refine lw_callV (n := 1) (as := [.int (xs (nI i + 1).toNatClampNeg)]) (rest := [.int (m_X9_state cs (xs (nI i + 1).toNatClampNeg))]) X ⟨hP2, hD2, hw.2.2⟩ hw.1 (fun i j hi hj q => hdis j i hj hi q.symm) hl.1 0 (c_X10_state l D cy ar rs (xs (nI i + 1).toNatClampNeg)) (by decide) ⟨rfl, rfl, rfl⟩ (eb_goodV wi_39_13 wi_39_14 wi_39_15 wi_1_5 wi_39_16) rfl (by decide +kernel) ⟨by decide, by decide⟩ rfl rfl (Nat.le_of_ble_eq_true rfl) dL_law_315 hcs (st' := [.int (m_X10_state rs (xs (nI i + 1).toNatClampNeg)), .int (m_X9_state cs (xs (nI i + 1).toNatClampNeg))]) rfl (fun H locs hwn hPn => ?_)
        have hw : eb_H D 33 cy cL ac A s.heap cs H locs := ⟨hPn, hw.2.1, hwn.2.2⟩
        have hP2 : va_P D vwCl (eb_W 18 cy rL ar rs) H := hwn.1
        have hD2 : va_D A (eb_W 18 cy rL ar rs) := hwn.2.1
        have he := (hR.2.2.2.2.2.2.2.2.1 k _ _ (xs (nI i + 1).toNatClampNeg) hk5 hk)
        refine lv_icmp_eq (tgt := 448) hx hb dL_law_318 (by decide) (fun _ => ?_) (fun hq => absurd (by rw [he]) hq)
        refine lv_iinc (v := nI (i + 4)) (lv' := [(3, .int (nI (i + 4))), (0, .ref b), (1, .ref (ac 0)), (2, .ref (ar 0))]) hx hb dL_law_448 hl (k := 3) rfl (by rw [show Int32.ofInt 4 = nI 4 by decide]; exact nI_add i 4) (by decide) rfl (fun ls hl => ?_)
        refine lv_goto (tgt := 30) hx hb dL_law_451 (by decide) ?_
        exact ih (k + 1) (i + 4) cs rs (by omega) (by omega) (by omega) (hR.2.1 _ _ _ hk) hw hP2 hD2 (lv_sub hl [1, 2, 3, 0] rfl)
      by_cases g7 : sw = 7
      · refine lv_tableIn (off := 279) (tgt := 323) hx hb dL_law_44 (by rw [g7]; decide) (by rw [g7]; decide) (by rw [g7]; rfl) (by decide) ?_
        refine lv_aload_n hx hb dL_law_323 rfl (lv_at hl 1 rfl) ?_
        refine lv_aload_n hx hb dL_law_324 rfl (lv_at hl 0 rfl) ?_
        refine lv_iload_n hx hb dL_law_325 rfl (lv_at hl 3 rfl) ?_
        refine lv_iconst (v := 1) hx hb dL_law_326 (by decide) ?_
        refine lv_iadd hx hb dL_law_327 ?_
        refine va_sld hx hb hX hbl hbA hw.2.2 (lw_in hL h4 (j := 1) (by decide) (nI_add i 1)) dL_law_328 ?_
        refine lw_callV (n := 1) (as := [.int (xs (nI i + 1).toNatClampNeg)]) (rest := []) X hw hP2 hdis hl.1 0 (c_X9_held l D cy ac cs (xs (nI i + 1).toNatClampNeg)) (by decide) ⟨rfl, rfl, rfl⟩ (eb_goodV wi_39_17 wi_39_18 wi_39_19 wi_1_2 wi_39_20) rfl (by decide +kernel) ⟨by decide, by decide⟩ rfl rfl (Nat.le_of_ble_eq_true rfl) dL_law_329 hcs (st' := [.long (m_X9_held cs (xs (nI i + 1).toNatClampNeg))]) rfl (fun H locs hwn hPn => ?_)
        have hw : eb_H D 33 cy cL ac A s.heap cs H locs := hwn
        have hP2 : va_P D vwCl (eb_W 18 cy rL ar rs) H := hPn
        refine lv_aload_n hx hb dL_law_332 rfl (lv_at hl 2 rfl) ?_
        refine lv_aload_n hx hb dL_law_333 rfl (lv_at hl 0 rfl) ?_
        refine lv_iload_n hx hb dL_law_334 rfl (lv_at hl 3 rfl) ?_
        refine lv_iconst (v := 1) hx hb dL_law_335 (by decide) ?_
        refine lv_iadd hx hb dL_law_336 ?_
        refine va_sld hx hb hX hbl hbA hw.2.2 (lw_in hL h4 (j := 1) (by decide) (nI_add i 1)) dL_law_337 ?_
        refine lw_callV (n := 1) (as := [.int (xs (nI i + 1).toNatClampNeg)]) (rest := [.long (m_X9_held cs (xs (nI i + 1).toNatClampNeg))]) X ⟨hP2, hD2, hw.2.2⟩ hw.1 (fun i j hi hj q => hdis j i hj hi q.symm) hl.1 0 (c_X10_held l D cy ar rs (xs (nI i + 1).toNatClampNeg)) (by decide) ⟨rfl, rfl, rfl⟩ (eb_goodV wi_40_2 wi_40_3 wi_40_4 wi_1_5 wi_40_5) rfl (by decide +kernel) ⟨by decide, by decide⟩ rfl rfl (Nat.le_of_ble_eq_true rfl) dL_law_338 hcs (st' := [.long (m_X10_held rs (xs (nI i + 1).toNatClampNeg)), .long (m_X9_held cs (xs (nI i + 1).toNatClampNeg))]) rfl (fun H locs hwn hPn => ?_)
        have hw : eb_H D 33 cy cL ac A s.heap cs H locs := ⟨hPn, hw.2.1, hwn.2.2⟩
        have hP2 : va_P D vwCl (eb_W 18 cy rL ar rs) H := hwn.1
        have hD2 : va_D A (eb_W 18 cy rL ar rs) := hwn.2.1
        have he := hR.2.2.2.2.2.2.2.2.2.1 k _ _ (xs (nI i + 1).toNatClampNeg) hk5 hk
        refine eb_lif_eq (tgt := 448) hx hb dL_law_341 dL_law_342 (by decide) (fun _ => ?_) (fun hq => absurd he hq)
        refine lv_iinc (v := nI (i + 4)) (lv' := [(3, .int (nI (i + 4))), (0, .ref b), (1, .ref (ac 0)), (2, .ref (ar 0))]) hx hb dL_law_448 hl (k := 3) rfl (by rw [show Int32.ofInt 4 = nI 4 by decide]; exact nI_add i 4) (by decide) rfl (fun ls hl => ?_)
        refine lv_goto (tgt := 30) hx hb dL_law_451 (by decide) ?_
        exact ih (k + 1) (i + 4) cs rs (by omega) (by omega) (by omega) (hR.2.1 _ _ _ hk) hw hP2 hD2 (lv_sub hl [1, 2, 3, 0] rfl)
      by_cases g8 : sw = 8
      · refine lv_tableIn (off := 303) (tgt := 347) hx hb dL_law_44 (by rw [g8]; decide) (by rw [g8]; decide) (by rw [g8]; rfl) (by decide) ?_
        refine lv_aload_n hx hb dL_law_347 rfl (lv_at hl 1 rfl) ?_
        refine lv_aload_n hx hb dL_law_348 rfl (lv_at hl 0 rfl) ?_
        refine lv_iload_n hx hb dL_law_349 rfl (lv_at hl 3 rfl) ?_
        refine lv_iconst (v := 1) hx hb dL_law_350 (by decide) ?_
        refine lv_iadd hx hb dL_law_351 ?_
        refine va_sld hx hb hX hbl hbA hw.2.2 (lw_in hL h4 (j := 1) (by decide) (nI_add i 1)) dL_law_352 ?_
        refine lv_aload_n hx hb dL_law_353 rfl (lv_at hl 0 rfl) ?_
        refine lv_iload_n hx hb dL_law_354 rfl (lv_at hl 3 rfl) ?_
        refine lv_iconst (v := 2) hx hb dL_law_355 (by decide) ?_
        refine lv_iadd hx hb dL_law_356 ?_
        refine va_sld hx hb hX hbl hbA hw.2.2 (lw_in hL h4 (j := 2) (by decide) (nI_add i 2)) dL_law_357 ?_
        refine lw_callV (n := 2) (as := [.int (xs (nI i + 1).toNatClampNeg), .int (xs (nI i + 2).toNatClampNeg)]) (rest := []) X hw hP2 hdis hl.1 0 (c_X9_pmp l D cy ac cs (xs (nI i + 1).toNatClampNeg) (xs (nI i + 2).toNatClampNeg)) (by decide) ⟨rfl, rfl, rfl⟩ (eb_goodV wi_40_6 wi_40_7 wi_40_8 wi_1_2 wi_40_9) rfl (by decide +kernel) ⟨by decide, by decide⟩ rfl rfl (Nat.le_of_ble_eq_true rfl) dL_law_358 hcs (st' := [.long (m_X9_pmp cs (xs (nI i + 1).toNatClampNeg) (xs (nI i + 2).toNatClampNeg))]) rfl (fun H locs hwn hPn => ?_)
        have hw : eb_H D 33 cy cL ac A s.heap cs H locs := hwn
        have hP2 : va_P D vwCl (eb_W 18 cy rL ar rs) H := hPn
        refine lv_aload_n hx hb dL_law_361 rfl (lv_at hl 2 rfl) ?_
        refine lv_aload_n hx hb dL_law_362 rfl (lv_at hl 0 rfl) ?_
        refine lv_iload_n hx hb dL_law_363 rfl (lv_at hl 3 rfl) ?_
        refine lv_iconst (v := 1) hx hb dL_law_364 (by decide) ?_
        refine lv_iadd hx hb dL_law_365 ?_
        refine va_sld hx hb hX hbl hbA hw.2.2 (lw_in hL h4 (j := 1) (by decide) (nI_add i 1)) dL_law_366 ?_
        refine lv_aload_n hx hb dL_law_367 rfl (lv_at hl 0 rfl) ?_
        refine lv_iload_n hx hb dL_law_368 rfl (lv_at hl 3 rfl) ?_
        refine lv_iconst (v := 2) hx hb dL_law_369 (by decide) ?_
        refine lv_iadd hx hb dL_law_370 ?_
        refine va_sld hx hb hX hbl hbA hw.2.2 (lw_in hL h4 (j := 2) (by decide) (nI_add i 2)) dL_law_371 ?_
        refine lw_callV (n := 2) (as := [.int (xs (nI i + 1).toNatClampNeg), .int (xs (nI i + 2).toNatClampNeg)]) (rest := [.long (m_X9_pmp cs (xs (nI i + 1).toNatClampNeg) (xs (nI i + 2).toNatClampNeg))]) X ⟨hP2, hD2, hw.2.2⟩ hw.1 (fun i j hi hj q => hdis j i hj hi q.symm) hl.1 0 (c_X10_pmp l D cy ar rs (xs (nI i + 1).toNatClampNeg) (xs (nI i + 2).toNatClampNeg) (hR.1 _ _ _ hk)) (by decide) ⟨rfl, rfl, rfl⟩ (eb_goodV wi_40_10 wi_40_11 wi_40_12 wi_1_5 wi_40_13) rfl (by decide +kernel) ⟨by decide, by decide⟩ rfl rfl (Nat.le_of_ble_eq_true rfl) dL_law_372 hcs (st' := [.long (m_X10_pmp rs (xs (nI i + 1).toNatClampNeg) (xs (nI i + 2).toNatClampNeg)), .long (m_X9_pmp cs (xs (nI i + 1).toNatClampNeg) (xs (nI i + 2).toNatClampNeg))]) rfl (fun H locs hwn hPn => ?_)
        have hw : eb_H D 33 cy cL ac A s.heap cs H locs := ⟨hPn, hw.2.1, hwn.2.2⟩
        have hP2 : va_P D vwCl (eb_W 18 cy rL ar rs) H := hwn.1
        have hD2 : va_D A (eb_W 18 cy rL ar rs) := hwn.2.1
        have he := hR.2.2.2.2.2.2.2.2.2.2.1 k _ _ (xs (nI i + 1).toNatClampNeg) (xs (nI i + 2).toNatClampNeg) hk5 hk
        refine eb_lif_eq (tgt := 448) hx hb dL_law_375 dL_law_376 (by decide) (fun _ => ?_) (fun hq => absurd he hq)
        refine lv_iinc (v := nI (i + 4)) (lv' := [(3, .int (nI (i + 4))), (0, .ref b), (1, .ref (ac 0)), (2, .ref (ar 0))]) hx hb dL_law_448 hl (k := 3) rfl (by rw [show Int32.ofInt 4 = nI 4 by decide]; exact nI_add i 4) (by decide) rfl (fun ls hl => ?_)
        refine lv_goto (tgt := 30) hx hb dL_law_451 (by decide) ?_
        exact ih (k + 1) (i + 4) cs rs (by omega) (by omega) (by omega) (hR.2.1 _ _ _ hk) hw hP2 hD2 (lv_sub hl [1, 2, 3, 0] rfl)
      by_cases g9 : sw = 9
      · refine lv_tableIn (off := 337) (tgt := 381) hx hb dL_law_44 (by rw [g9]; decide) (by rw [g9]; decide) (by rw [g9]; rfl) (by decide) ?_
        refine lv_aload_n hx hb dL_law_381 rfl (lv_at hl 1 rfl) ?_
        refine lv_aload_n hx hb dL_law_382 rfl (lv_at hl 0 rfl) ?_
        refine lv_iload_n hx hb dL_law_383 rfl (lv_at hl 3 rfl) ?_
        refine lv_iconst (v := 1) hx hb dL_law_384 (by decide) ?_
        refine lv_iadd hx hb dL_law_385 ?_
        refine va_sld hx hb hX hbl hbA hw.2.2 (lw_in hL h4 (j := 1) (by decide) (nI_add i 1)) dL_law_386 ?_
        refine lv_aload_n hx hb dL_law_387 rfl (lv_at hl 0 rfl) ?_
        refine lv_iload_n hx hb dL_law_388 rfl (lv_at hl 3 rfl) ?_
        refine lv_iconst (v := 2) hx hb dL_law_389 (by decide) ?_
        refine lv_iadd hx hb dL_law_390 ?_
        refine va_sld hx hb hX hbl hbA hw.2.2 (lw_in hL h4 (j := 2) (by decide) (nI_add i 2)) dL_law_391 ?_
        refine lw_callV (n := 2) (as := [.int (xs (nI i + 1).toNatClampNeg), .int (xs (nI i + 2).toNatClampNeg)]) (rest := []) X hw hP2 hdis hl.1 0 (c_X9_enclave l D cy ac cs (xs (nI i + 1).toNatClampNeg) (xs (nI i + 2).toNatClampNeg)) (by decide) ⟨rfl, rfl, rfl⟩ (eb_goodV wi_40_14 wi_40_15 wi_40_16 wi_1_2 wi_40_17) rfl (by decide +kernel) ⟨by decide, by decide⟩ rfl rfl (Nat.le_of_ble_eq_true rfl) dL_law_392 hcs (st' := [.int (m_X9_enclave cs (xs (nI i + 1).toNatClampNeg) (xs (nI i + 2).toNatClampNeg))]) rfl (fun H locs hwn hPn => ?_)
        have hw : eb_H D 33 cy cL ac A s.heap cs H locs := hwn
        have hP2 : va_P D vwCl (eb_W 18 cy rL ar rs) H := hPn
        refine lv_aload_n hx hb dL_law_395 rfl (lv_at hl 2 rfl) ?_
        refine lv_aload_n hx hb dL_law_396 rfl (lv_at hl 0 rfl) ?_
        refine lv_iload_n hx hb dL_law_397 rfl (lv_at hl 3 rfl) ?_
        refine lv_iconst (v := 1) hx hb dL_law_398 (by decide) ?_
        refine lv_iadd hx hb dL_law_399 ?_
        refine va_sld hx hb hX hbl hbA hw.2.2 (lw_in hL h4 (j := 1) (by decide) (nI_add i 1)) dL_law_400 ?_
        refine lv_aload_n hx hb dL_law_401 rfl (lv_at hl 0 rfl) ?_
        refine lv_iload_n hx hb dL_law_402 rfl (lv_at hl 3 rfl) ?_
        refine lv_iconst (v := 2) hx hb dL_law_403 (by decide) ?_
        refine lv_iadd hx hb dL_law_404 ?_
        refine va_sld hx hb hX hbl hbA hw.2.2 (lw_in hL h4 (j := 2) (by decide) (nI_add i 2)) dL_law_405 ?_
        refine lw_callV (n := 2) (as := [.int (xs (nI i + 1).toNatClampNeg), .int (xs (nI i + 2).toNatClampNeg)]) (rest := [.int (m_X9_enclave cs (xs (nI i + 1).toNatClampNeg) (xs (nI i + 2).toNatClampNeg))]) X ⟨hP2, hD2, hw.2.2⟩ hw.1 (fun i j hi hj q => hdis j i hj hi q.symm) hl.1 0 (c_X10_enclave l D cy ar rs (xs (nI i + 1).toNatClampNeg) (xs (nI i + 2).toNatClampNeg)) (by decide) ⟨rfl, rfl, rfl⟩ (eb_goodV wi_40_23 wi_41_0 wi_41_1 wi_1_5 wi_41_2) rfl (by decide +kernel) ⟨by decide, by decide⟩ rfl rfl (Nat.le_of_ble_eq_true rfl) dL_law_406 hcs (st' := [.int (m_X10_enclave rs (xs (nI i + 1).toNatClampNeg) (xs (nI i + 2).toNatClampNeg)), .int (m_X9_enclave cs (xs (nI i + 1).toNatClampNeg) (xs (nI i + 2).toNatClampNeg))]) rfl (fun H locs hwn hPn => ?_)
        have hw : eb_H D 33 cy cL ac A s.heap cs H locs := ⟨hPn, hw.2.1, hwn.2.2⟩
        have hP2 : va_P D vwCl (eb_W 18 cy rL ar rs) H := hwn.1
        have hD2 : va_D A (eb_W 18 cy rL ar rs) := hwn.2.1
        have he := (hR.2.2.2.2.2.2.2.2.2.2.2.1 k _ _ (xs (nI i + 1).toNatClampNeg) (xs (nI i + 2).toNatClampNeg) hk5 hk)
        refine lv_icmp_eq (tgt := 448) hx hb dL_law_409 (by decide) (fun _ => ?_) (fun hq => absurd (by rw [he]) hq)
        refine lv_iinc (v := nI (i + 4)) (lv' := [(3, .int (nI (i + 4))), (0, .ref b), (1, .ref (ac 0)), (2, .ref (ar 0))]) hx hb dL_law_448 hl (k := 3) rfl (by rw [show Int32.ofInt 4 = nI 4 by decide]; exact nI_add i 4) (by decide) rfl (fun ls hl => ?_)
        refine lv_goto (tgt := 30) hx hb dL_law_451 (by decide) ?_
        exact ih (k + 1) (i + 4) cs rs (by omega) (by omega) (by omega) (hR.2.1 _ _ _ hk) hw hP2 hD2 (lv_sub hl [1, 2, 3, 0] rfl)
      by_cases g10 : sw = 10
      · refine lv_tableIn (off := 370) (tgt := 414) hx hb dL_law_44 (by rw [g10]; decide) (by rw [g10]; decide) (by rw [g10]; rfl) (by decide) ?_
        refine lv_aload_n hx hb dL_law_414 rfl (lv_at hl 1 rfl) ?_
        refine lv_aload_n hx hb dL_law_415 rfl (lv_at hl 0 rfl) ?_
        refine lv_iload_n hx hb dL_law_416 rfl (lv_at hl 3 rfl) ?_
        refine lv_iconst (v := 1) hx hb dL_law_417 (by decide) ?_
        refine lv_iadd hx hb dL_law_418 ?_
        refine va_sld hx hb hX hbl hbA hw.2.2 (lw_in hL h4 (j := 1) (by decide) (nI_add i 1)) dL_law_419 ?_
        refine lv_aload_n hx hb dL_law_420 rfl (lv_at hl 0 rfl) ?_
        refine lv_iload_n hx hb dL_law_421 rfl (lv_at hl 3 rfl) ?_
        refine lv_iconst (v := 2) hx hb dL_law_422 (by decide) ?_
        refine lv_iadd hx hb dL_law_423 ?_
        refine va_sld hx hb hX hbl hbA hw.2.2 (lw_in hL h4 (j := 2) (by decide) (nI_add i 2)) dL_law_424 ?_
        refine lw_callV (n := 2) (as := [.int (xs (nI i + 1).toNatClampNeg), .int (xs (nI i + 2).toNatClampNeg)]) (rest := []) X hw hP2 hdis hl.1 0 (c_X9_eye l D cy ac cs (xs (nI i + 1).toNatClampNeg) (xs (nI i + 2).toNatClampNeg)) (by decide) ⟨rfl, rfl, rfl⟩ (eb_goodV wi_41_3 wi_41_4 wi_41_5 wi_1_2 wi_41_6) rfl (by decide +kernel) ⟨by decide, by decide⟩ rfl rfl (Nat.le_of_ble_eq_true rfl) dL_law_425 hcs (st' := [.long (m_X9_eye cs (xs (nI i + 1).toNatClampNeg) (xs (nI i + 2).toNatClampNeg))]) rfl (fun H locs hwn hPn => ?_)
        have hw : eb_H D 33 cy cL ac A s.heap cs H locs := hwn
        have hP2 : va_P D vwCl (eb_W 18 cy rL ar rs) H := hPn
        refine lv_aload_n hx hb dL_law_428 rfl (lv_at hl 2 rfl) ?_
        refine lv_aload_n hx hb dL_law_429 rfl (lv_at hl 0 rfl) ?_
        refine lv_iload_n hx hb dL_law_430 rfl (lv_at hl 3 rfl) ?_
        refine lv_iconst (v := 1) hx hb dL_law_431 (by decide) ?_
        refine lv_iadd hx hb dL_law_432 ?_
        refine va_sld hx hb hX hbl hbA hw.2.2 (lw_in hL h4 (j := 1) (by decide) (nI_add i 1)) dL_law_433 ?_
        refine lv_aload_n hx hb dL_law_434 rfl (lv_at hl 0 rfl) ?_
        refine lv_iload_n hx hb dL_law_435 rfl (lv_at hl 3 rfl) ?_
        refine lv_iconst (v := 2) hx hb dL_law_436 (by decide) ?_
        refine lv_iadd hx hb dL_law_437 ?_
        refine va_sld hx hb hX hbl hbA hw.2.2 (lw_in hL h4 (j := 2) (by decide) (nI_add i 2)) dL_law_438 ?_
        refine lw_callV (n := 2) (as := [.int (xs (nI i + 1).toNatClampNeg), .int (xs (nI i + 2).toNatClampNeg)]) (rest := [.long (m_X9_eye cs (xs (nI i + 1).toNatClampNeg) (xs (nI i + 2).toNatClampNeg))]) X ⟨hP2, hD2, hw.2.2⟩ hw.1 (fun i j hi hj q => hdis j i hj hi q.symm) hl.1 0 (c_X10_eye l D cy ar rs (xs (nI i + 1).toNatClampNeg) (xs (nI i + 2).toNatClampNeg) (hR.1 _ _ _ hk)) (by decide) ⟨rfl, rfl, rfl⟩ (eb_goodV wi_41_13 wi_41_14 wi_41_15 wi_1_5 wi_41_16) rfl (by decide +kernel) ⟨by decide, by decide⟩ rfl rfl (Nat.le_of_ble_eq_true rfl) dL_law_439 hcs (st' := [.long (m_X10_eye rs (xs (nI i + 1).toNatClampNeg) (xs (nI i + 2).toNatClampNeg)), .long (m_X9_eye cs (xs (nI i + 1).toNatClampNeg) (xs (nI i + 2).toNatClampNeg))]) rfl (fun H locs hwn hPn => ?_)
        have hw : eb_H D 33 cy cL ac A s.heap cs H locs := ⟨hPn, hw.2.1, hwn.2.2⟩
        have hP2 : va_P D vwCl (eb_W 18 cy rL ar rs) H := hwn.1
        have hD2 : va_D A (eb_W 18 cy rL ar rs) := hwn.2.1
        have he := hR.2.2.2.2.2.2.2.2.2.2.2.2 k _ _ (xs (nI i + 1).toNatClampNeg) (xs (nI i + 2).toNatClampNeg) hk5 hk
        refine eb_lif_eq (tgt := 448) hx hb dL_law_442 dL_law_443 (by decide) (fun _ => ?_) (fun hq => absurd he hq)
        refine lv_iinc (v := nI (i + 4)) (lv' := [(3, .int (nI (i + 4))), (0, .ref b), (1, .ref (ac 0)), (2, .ref (ar 0))]) hx hb dL_law_448 hl (k := 3) rfl (by rw [show Int32.ofInt 4 = nI 4 by decide]; exact nI_add i 4) (by decide) rfl (fun ls hl => ?_)
        refine lv_goto (tgt := 30) hx hb dL_law_451 (by decide) ?_
        exact ih (k + 1) (i + 4) cs rs (by omega) (by omega) (by omega) (hR.2.1 _ _ _ hk) hw hP2 hD2 (lv_sub hl [1, 2, 3, 0] rfl)
      refine lv_tableOut (tgt := 448) hx hb dL_law_44 (by have q0 := lv_neT g0 (a := 0) (by decide); have q1 := lv_neT g1 (a := 1) (by decide); have q2 := lv_neT g2 (a := 2) (by decide); have q3 := lv_neT g3 (a := 3) (by decide); have q4 := lv_neT g4 (a := 4) (by decide); have q5 := lv_neT g5 (a := 5) (by decide); have q6 := lv_neT g6 (a := 6) (by decide); have q7 := lv_neT g7 (a := 7) (by decide); have q8 := lv_neT g8 (a := 8) (by decide); have q9 := lv_neT g9 (a := 9) (by decide); have q10 := lv_neT g10 (a := 10) (by decide); omega) (by decide) ?_
      refine lv_iinc (v := nI (i + 4)) (lv' := [(3, .int (nI (i + 4))), (0, .ref b), (1, .ref (ac 0)), (2, .ref (ar 0))]) hx hb dL_law_448 hl (k := 3) rfl (by rw [show Int32.ofInt 4 = nI 4 by decide]; exact nI_add i 4) (by decide) rfl (fun ls hl => ?_)
      refine lv_goto (tgt := 30) hx hb dL_law_451 (by decide) ?_
      exact ih (k + 1) (i + 4) cs rs (by omega) (by omega) (by omega) (hR.2.1 _ _ _ hk) hw hP2 hD2 (lv_sub hl [1, 2, 3, 0] rfl)
