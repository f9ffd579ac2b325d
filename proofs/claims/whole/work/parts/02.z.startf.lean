/-! the start of a contract, for a method of a JDK class that has entries of its own -/
theorem eb_startF {l : Launch} {y : MethodName} {ws ws' : List Cond} {fr lo : Nat} {D : va_G} {N : Nat} {cy : Nat → ClassId} {L : eb_Lay} {ad : Nat → Nat} {σ τ : eb_St} {as : List Value} {r : Option Value} {cc : ByteArray} {maxL : Nat} {ret : Option FieldType} {own : String}
    (hy : plainFor y = true) (hw : ws = Cond.code y cc maxL ret :: ws') (ho : y.cls = own) (hn : (lg_sl as).length ≤ maxL)
    (body : ∀ (p : Program) (e : Env) (s : State) (m : MethodId) (args : Array Value) (below : List Frame) (meth : Method) (c : Code) (A : Nat → Prop) (ls : Array Slot), eb_X p s m args meth c cc maxL own ws ret D cy A → eb_H D N cy L ad A s.heap σ s.heap [] → lv_has ls maxL (lv_args 0 as) →
      W p l e ({ frames := fr, cells := 0, slots := 0, locals := lo } : Room) s m args below meth c s.heap [] 0 0 (MQ below (eb_Q D N cy L ad A r τ) args s 0 0 A) (F0 m 0 ls [])) : eb_M l y ws fr lo D N cy L ad σ as r τ := by
  intro sz
  refine va_MetF hy hw ?_
  intro p e s m args below meth c s₁ B hml hv
  obtain ⟨rfl, hsz, hP, hK, hD0⟩ := hv
  subst hsz
  rw [lg_entry_eq]
  have hD := hD0.self (sz := s.heap.size)
  refine body p e s m _ below meth c _ _ ⟨⟨B.exec, B.bytes, hml, ?_, atoms_spec (ws := ws) B.pre⟩, hK, B.returns, B.notSynchronized, fun q h => Or.inr h⟩ ⟨hP, hD, va_S.rf⟩ (lv_entry as hn)
  rw [← ho]
  exact findClass_of_methodNamed B.named
