/-! THE CONSTRUCTORS' LAYER: what the tables say besides (private constructors of nest mates, the row of enclaves) -/
def ec_nest (U : State) : Prop := va_Nw (.methodLinkNest RX9 9 yX4_init RX9) U ∧ va_Nw (.methodLinkNest RX9 18 yX6_init RX9) U ∧ va_Nw (.methodLinkNest RX9 34 yX7_init RX9) U ∧ va_Nw (.methodLinkNest RX5 11 yX8_init RX9) U ∧ va_Nw (.methodLinkNest RX5 44 yX2_init RX9) U ∧ va_Nw (.methodLinkNest RX2 9 yX7_init RX9) U ∧ va_AO RX2 U
def ec_K (D : va_G) (cy : Nat → ClassId) (U : State) : Prop := eb_K D cy U ∧ ec_nest U
theorem ec_K.moved {D : va_G} {cy : Nat → ClassId} {u U : State} (hW : u.WarmedH U.vm) (h : ec_K D cy u) : ec_K D cy U :=
  ⟨eb_K.moved hW h.1, va_Nw.warmM hW h.2.1, va_Nw.warmM hW h.2.2.1, va_Nw.warmM hW h.2.2.2.1, va_Nw.warmM hW h.2.2.2.2.1, va_Nw.warmM hW h.2.2.2.2.2.1, va_Nw.warmM hW h.2.2.2.2.2.2.1, va_AO.moved hW.alike h.2.2.2.2.2.2.2⟩
theorem ec_K.same {D : va_G} {cy : Nat → ClassId} {u U : State} (e : u.vm = U.vm) (h : ec_K D cy u) : ec_K D cy U :=
  ⟨eb_K.same e h.1, va_Nw.same rfl e h.2.1, va_Nw.same rfl e h.2.2.1, va_Nw.same rfl e h.2.2.2.1, va_Nw.same rfl e h.2.2.2.2.1, va_Nw.same rfl e h.2.2.2.2.2.1, va_Nw.same rfl e h.2.2.2.2.2.2.1, va_AO.moved (by rw [e]; exact Vm.Alike.refl U.vm) h.2.2.2.2.2.2.2⟩
def ec_Pc (D : va_G) (cy : Nat → ClassId) (ws : va_W) (sz : Nat) (as : List Value) : Array Value → State → Prop :=
  va_Pc as (fun U => U.heap.size = sz ∧ va_P D vwCl ws U.heap ∧ ec_K D cy U ∧ va_D (fun _ => True) ws)
theorem ec_blind {D : va_G} {cy : Nat → ClassId} {ws : va_W} {sz : Nat} {as : List Value} : FrameBlind (ec_Pc D cy ws sz as) := fun a U g mk q => by
  obtain ⟨q0, q1, qP, qK, qD⟩ := q
  exact ⟨q0, q1, qP, ec_K.same (u := U) (U := U.calling g mk a) rfl qK, qD⟩
theorem ec_good {y : MethodName} {cc : ByteArray} {n : Nat} {rt : Option FieldType} {z : Cond} (h4 : Cond.code y cc n rt ∈ wsL_law) : GoodIn (z :: wsL_law) (Cond.code y cc n rt :: wsL_law) := by
  intro w hw
  have hm : w ∈ wsL_law := by
    rcases List.mem_cons.mp hw with rfl | h
    · exact h4
    · exact h
  exact ⟨List.mem_cons_of_mem _ hm, good_of_word (List.all_eq_true.mp gd_all w hm)⟩
section ECN
variable {p : Program} {l : Launch} {e : Env} {R : Room} {s : State} {m : MethodId} {args : Array Value} {below : List Frame} {meth : Method} {c : Code} {H : Heap} {locs : List Loc} {cells slots : Nat} {Q : State → Prop}
variable {cc : ByteArray} {pc : Nat} {ls : Array Slot} {rest : List Value} {D : va_G} {A : Nat → Prop} {H0 : Heap} {cy : Nat → ClassId} {ws : va_W}
/-- newarray: its class is the known one -/
theorem ec_newa (hx : p.tables.exec = Jvm.exec) (hb : c.code = cc) {atype : ArrayType} (harr : (Cond.arrayClass (newarray.typeOf atype)).before args s = true) {ty : FieldType} (hty : newarray.typeOf atype = ty) (hp : ty = .byte ∨ ty = .int ∨ ty = .long) (hK : ec_K D cy s) (hP : va_P D vwCl ws H) (hD : va_D A ws) (hS : va_S A H0 H locs) (hA : ∀ q, H0.size ≤ q → A q)
    (t : Nat) (ht : (eb_tys cy)[t]? = some (cy t, ty)) {n : Int32} {N' : Nat} {a0 : vp_A} (ha : ∀ cA : ClassId, vp_cell cA a0 = arrV cA N' (fun _ => defaultValue ty)) (hn : ¬ n < 0) (hN : n.toNatClampNeg = N') (hbytes : N' * componentBytes ty ≤ 536870912) (hcells : cells + 1 ≤ R.cells) (hslots : slots + N' ≤ R.slots) (hdg : decode cc pc = .ok (.newarray atype, 2))
    (kk : ∀ (q : Nat) (H1 : Heap), va_P D vwCl (ws ++ [(q, .inl (cy t, a0))]) H1 → va_D A (ws ++ [(q, .inl (cy t, a0))]) → va_S A H0 H1 locs →
      W p l e R s m args below meth c H1 locs (cells + 1) (slots + N') Q (F0 m (pc + 2) ls (.ref q :: rest))) : W p l e R s m args below meth c H locs cells slots Q (F0 m pc ls (.int n :: rest)) := by
  refine va_newa hx hb harr hty hK.1.1 hP hD hS hA ha hn hN hbytes hcells hslots hdg (fun q cA H1 hK1 hP1 hD1 hS1 => ?_)
  have h1 := (hK.1.1.2 t _ ht).2
  have h2 : va_RA s cA ty := (hK1.2 4 (cA, ty) rfl).2
  have e : cA = cy t := by
    rcases hp with rfl | rfl | rfl
    · exact Option.some.inj ((show s.vm.findClass _ = some cA from h2).symm.trans (show s.vm.findClass _ = some (cy t) from h1))
    · exact Option.some.inj ((show s.vm.findClass _ = some cA from h2).symm.trans (show s.vm.findClass _ = some (cy t) from h1))
    · exact Option.some.inj ((show s.vm.findClass _ = some cA from h2).symm.trans (show s.vm.findClass _ = some (cy t) from h1))
  subst e
  exact kk q H1 hP1 hD1 hS1
/-- anewarray of places for enclaves -/
theorem ec_newq (hx : p.tables.exec = Jvm.exec) (hb : c.code = cc) {own : String} {index : Nat} (hown : s.vm.findClass own = some m.cls) (hclink : (Cond.classLink own index RX2).before args s = true) (hK : ec_K D cy s) (hP : va_P D vwCl ws H) (hD : va_D A ws) (hS : va_S A H0 H locs) (hA : ∀ q, H0.size ≤ q → A q)
    {n : Int32} {N' : Nat} (hn : ¬ n < 0) (hN : n.toNatClampNeg = N') (hbytes : N' * 4 ≤ 536870912) (hcells : cells + 1 ≤ R.cells) (hslots : slots + N' ≤ R.slots) (hdg : decode cc pc = .ok (.anewarray index, 3))
    (kk : ∀ (q : Nat) (H1 : Heap), va_P D vwCl (ws ++ [(q, .inl (cy 3, N', .inr (.inr (.inr (.inr (fun _ => none))))))]) H1 → va_D A (ws ++ [(q, .inl (cy 3, N', .inr (.inr (.inr (.inr (fun _ => none))))))]) → va_S A H0 H1 locs →
      W p l e R s m args below meth c H1 locs (cells + 1) (slots + N') Q (F0 m (pc + 3) ls (.ref q :: rest))) : W p l e R s m args below meth c H locs cells slots Q (F0 m pc ls (.int n :: rest)) := by
  refine va_newq hx hb hown hclink hK.2.2.2.2.2.2.2 hK.1.1 hP hD hS hA hn hN hbytes hcells hslots hdg (fun q cA H1 hK1 hP1 hD1 hS1 => ?_)
  obtain ⟨_, _, _, _, _, h1⟩ := (hK.1.1.2 3 _ rfl).2
  obtain ⟨_, _, _, _, _, h2⟩ := (hK1.2 4 (cA, .object RX2) rfl).2
  have e : cA = cy 3 := Option.some.inj (h2.symm.trans h1)
  subst e
  exact kk q H1 hP1 hD1 hS1
end ECN
