/-! THE LAW'S ROWS: the two sides' worlds beside each other: a call of one side keeps the other -/
section LWC
variable {p : Program} {l : Launch} {e : Env} {R : Room} {s : State} {m : MethodId} {args : Array Value} {below : List Frame} {meth : Method} {c : Code} {H : Heap} {locs : List Loc} {cells slots : Nat} {Q : State → Prop}
variable {cc : ByteArray} {nL pc : Nat} {ls : Array Slot} {rest : List Value} {D : va_G} {A : Nat → Prop} {own : String} {Ts : List Cond} {ret : Option FieldType} {N : Nat} {cy : Nat → ClassId} {L : eb_Lay} {ad : Nat → Nat} {σ : eb_St}
variable {N2 : Nat} {L2 : eb_Lay} {ad2 : Nat → Nat} {σ2 : eb_St}
theorem eb_W_in {q : Nat × va_E} {k : Nat} (h : (eb_W N cy L ad σ)[k]? = some q) : k < N ∧ q.1 = ad k := by
  have hk : k < N := by
    have := (List.getElem?_eq_some_iff.mp h).1
    simpa [eb_W] using this
  rw [eb_W_at hk] at h
  exact ⟨hk, by rw [← Option.some.inj h]⟩
theorem lw_behind {st st' : List Value} {r : Option Value} {τ : eb_St} {as : Array Value} (X : eb_X p s m args meth c cc nL own Ts ret D cy A) (hw : eb_H D N cy L ad A s.heap σ H locs) (hP2 : va_P D vwCl (eb_W N2 cy L2 ad2 σ2) H) (hdis : ∀ i j, i < N → j < N2 → ad i ≠ ad2 j)
    (hr : va_Run p l e R s m args below meth c H locs cells slots 0 0 (F0 m pc ls st) rest (eb_Q D N cy L ad (va_A (eb_W N cy L ad σ) H.size) r τ as) (va_A (eb_W N cy L ad σ) H.size)) (hst' : r.toList ++ rest = st')
    (kk : ∀ (H1 : Heap) (locs1 : List Loc), eb_H D N cy L ad A s.heap τ H1 locs1 → va_P D vwCl (eb_W N2 cy L2 ad2 σ2) H1 → W p l e R s m args below meth c H1 locs1 cells slots Q (F0 m (pc + 3) ls st')) : W p l e R s m args below meth c H locs cells slots Q (F0 m pc ls st) := by
  obtain ⟨⟨hx, hb, hml, hown, hts⟩, hK, hret, hlk, hA⟩ := X
  obtain ⟨hP, hD, hS⟩ := hw
  subst hst'
  have hF : ∀ q, va_A (eb_W N cy L ad σ) H.size q → A q := fun q h => h.elim (fun ⟨k, _, h⟩ => hD.2 k _ h) (fun h => hA q (Nat.le_trans hS.1 h))
  intro T hT X
  obtain ⟨v, st₀, t, T', L', h0, X', hL, e1, e2, ⟨hv, hP1, hK1, hD1, hz, hk⟩, st⟩ := hr T hT X
  cases hv
  rw [h0] at hz hk
  have hP2' : va_P D vwCl (eb_W N2 cy L2 ad2 σ2) T'.heap := hP2.kept (fun k q hq => by
    rw [e1]
    have hlt := (hP2 k q hq).lt
    refine hk q.1 hlt (fun z => ?_)
    rcases z with ⟨k1, ee, z⟩ | z
    · have w1 := eb_W_in z
      have w2 := eb_W_in hq
      exact hdis _ _ w1.1 w2.1 (w1.2.symm.trans w2.2)
    · omega)
  obtain ⟨t2, a1, b1⟩ := kk T'.heap (locs ++ L') ⟨by rw [e1]; exact hP1, hD1.weaken (fun _ _ _ h => hF _ h), ⟨Nat.le_trans hS.1 (by rw [e1]; exact hz), fun q h1 h2 => by rw [e1, hk q (Nat.lt_of_lt_of_le h1 hS.1) (fun z => h2 (hF q z))]; exact hS.2.1 q h1 h2, fun q hq => by
      rcases List.mem_append.mp hq with h | h
      · exact hS.2.2 q h
      · exact hF _ (hL q h)⟩⟩ hP2' T' rfl X'
  exact ⟨t2, st t2 a1, b1⟩
/-- invokevirtual, of a method of the object at cell k -/
theorem lw_callV (X : eb_X p s m args meth c cc nL own Ts ret D cy A) (hw : eb_H D N cy L ad A s.heap σ H locs) (hP2 : va_P D vwCl (eb_W N2 cy L2 ad2 σ2) H) (hdis : ∀ i j, i < N → j < N2 → ad i ≠ ad2 j) (hl : ls.size = nL) {y : MethodName} {ws ws' : List Cond} {bytes : ByteArray} {maxL fr lo index n : Nat} {rt : Option FieldType} {as st st' : List Value} {r : Option Value} {τ : eb_St} {C : String} {T : u_T} {nf : Nat} (k : Nat)
    (hM : eb_M l y ws fr lo D N cy L ad σ (.ref (ad k) :: as) r τ) (hk : k < N) (hki : L.1 k = 0 ∧ vwCl[L.2.1 k]? = some (C, T, nf) ∧ L.2.2.1 k = nf) (hG : GoodIn Ts (wsV own index C y ws)) (hws : ws = Cond.code y bytes maxL rt :: ws')
    (hd : y.cls = C ∧ y.cls ≠ "java/lang/invoke/MethodHandle" ∧ y.cls ≠ "java/lang/invoke/VarHandle" ∧ (parseMethodDescriptor y.desc).map (fun d => d.parameters.length) = some n) (hR : fr + 1 ≤ R.frames ∧ 8 + (maxL + 11) + lo ≤ R.locals) (hn : as.length = n) (hst : st = as.reverse ++ .ref (ad k) :: rest) (hW : (rest.map fun v => v.category).sum ≤ 8)
    (hdg : decode cc pc = .ok (.invokevirtual index, 3)) (hf : cells ≤ R.cells ∧ slots ≤ R.slots)
    (hst' : r.toList ++ rest = st')
    (kk : ∀ (H1 : Heap) (locs1 : List Loc), eb_H D N cy L ad A s.heap τ H1 locs1 → va_P D vwCl (eb_W N2 cy L2 ad2 σ2) H1 → W p l e R s m args below meth c H1 locs1 cells slots Q (F0 m (pc + 3) ls st')) : W p l e R s m args below meth c H locs cells slots Q (F0 m pc ls st) := by
  have X0 := X
  obtain ⟨S, hK, hret, hlk, hA⟩ := X0
  have hw0 := hw
  obtain ⟨hP, hD, hS⟩ := hw0
  obtain ⟨h0, hc, hnn⟩ := hki
  have he := eb_W_at (cy := cy) (L := L) (ad := ad) (σ := σ) hk
  rw [eb_cell, if_pos h0] at he
  refine lw_behind (st := st) (as := (Value.ref (ad k) :: as).toArray) X hw hP2 hdis (va_runV (As := as) (C := C) S (hM H.size) (cwV n S.2.2.2.2 hG hws rfl rfl hd hR) ⟨eb_blind, va_recv hK.1 hP hc he, fun U hU hW => ⟨rfl, by rw [hU], by rw [hU]; exact hP, eb_K.moved hW hK, hD.weaken (fun _ _ _ _ => trivial)⟩⟩ rfl hn hl hst (lv_room hW) hdg hf) hst' kk
end LWC
set_option maxHeartbeats 4000000 in
set_option maxRecDepth 100000 in
/-- the law's own cell(script, k) -/
theorem c_L_cell (l : Launch) (b L : Nat) (xs : Nat → Int32) (hL : L ≤ 2049) (k : Nat) (hk : k < 2147483648) (sz : Nat) (A : Nat → Prop) : Met l yL_cell (Cond.code yL_cell cL_cell 2 (some .int) :: wsL_law) ({ frames := 0, cells := 0, slots := 0, locals := 0 }) (va_Pc [.ref b, .int (nI k)] (fun U => U.heap.size = sz ∧ va_X b L xs U U.heap ∧ b < sz)) (va_Qi (fun (r : Int32) (_ : Unit) => r = if k < L then xs k else 0) (fun _ t => t.heap.size = sz) (fun _ => False)) 0 0 (fun _ => False) := by
  refine Met.ofW (cc := cL_cell) (maxL := 2) (ret := (some .int)) (by decide) rfl ?_
  intro p e s m args below meth c s₁ B hml hv
  obtain ⟨rfl, hsz, hX, hbl⟩ := hv
  have hx := B.exec
  have hb := B.bytes
  have hr := B.returns
  have hlocks := B.notSynchronized
  subst hsz
  have hS : va_S (fun _ => False) s.heap s.heap [] := va_S.rf
  have hbA : ¬ (fun _ : Nat => False) b := fun h => h
  have hl := lv_entry ([.ref b, .int (nI k)]) (n := 2) (Nat.le_of_ble_eq_true rfl)
  rw [lg_entry_eq]
  generalize (lg_sl ([.ref b, .int (nI k)]) ++ List.replicate (2 - (lg_sl ([.ref b, .int (nI k)])).length) Slot.unset).toArray = ls at hl ⊢
  have hl : lv_has ls 2 [(0, .ref b), (1, .int (nI k))] := hl
  refine lv_iload_n hx hb dL_cell_0 rfl (lv_at hl 1 rfl) ?_
  refine lv_aload_n hx hb dL_cell_1 rfl (lv_at hl 0 rfl) ?_
  refine va_slen hx hb hX hbl hbA hS dL_cell_2 ?_
  refine lv_icmp_ge (tgt := 12) hx hb dL_cell_3 (by decide) (fun h => ?_) (fun h => ?_)
  · refine lv_iconst (v := 0) hx hb dL_cell_12 (by decide) ?_
    have hn : ¬ k < L := fun q => absurd h (nI_ge q (by omega))
    exact W.iret hx hb hr (fun t ht hW => ⟨⟨0, (), rfl, by rw [if_neg hn], congrArg Array.size ht⟩, hS.F ht⟩) hS.2.2 dL_cell_13
  · have hlt : k < L := by
      rcases Nat.lt_or_ge k L with q | q
      · exact q
      · exact absurd (nI_le q hk) h
    refine lv_aload_n hx hb dL_cell_6 rfl (lv_at hl 0 rfl) ?_
    refine lv_iload_n hx hb dL_cell_7 rfl (lv_at hl 1 rfl) ?_
    refine va_sld hx hb hX hbl hbA hS (vp_in_nI hlt (by omega)) dL_cell_8 ?_
    refine lv_goto (tgt := 13) hx hb dL_cell_9 (by decide) ?_
    rw [nI_clamp hk]
    exact W.iret hx hb hr (fun t ht hW => ⟨⟨xs k, (), rfl, by rw [if_pos hlt], congrArg Array.size ht⟩, hS.F ht⟩) hS.2.2 dL_cell_13
