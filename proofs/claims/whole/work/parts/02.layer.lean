/-! THE LAYER: one state for a whole side (ints and longs by cell and place), one world made of it, one form of contract. -/
abbrev eb_St : Type := (Nat → Nat → Int32) × (Nat → Nat → Int64)
/-- a layout: kind of a cell (0 object, 1 byte[], 2 int[], 3 long[], else references), its class's number, its size, a place's type (0 int, 1 long, else a reference), the cell that a reference names -/
abbrev eb_Lay : Type := (Nat → Nat) × (Nat → Nat) × (Nat → Nat) × (Nat → Nat → Nat) × (Nat → Nat → Nat)
def eb_pI (σ : eb_St) (k j : Nat) (v : Int32) : eb_St := (fun a b => if a = k ∧ b = j then v else σ.1 a b, σ.2)
def eb_pJ (σ : eb_St) (k j : Nat) (v : Int64) : eb_St := (σ.1, fun a b => if a = k ∧ b = j then v else σ.2 a b)
def eb_slot (L : eb_Lay) (ad : Nat → Nat) (σ : eb_St) (k j : Nat) : Value :=
  if L.2.2.2.1 k j = 0 then .int (σ.1 k j) else if L.2.2.2.1 k j = 1 then .long (σ.2 k j) else .ref (ad (L.2.2.2.2 k j))
def eb_cell (cy : Nat → ClassId) (L : eb_Lay) (ad : Nat → Nat) (σ : eb_St) (k : Nat) : va_E :=
  if L.1 k = 0 then .inr (L.2.1 k, (List.range (L.2.2.1 k)).map (eb_slot L ad σ k))
  else if L.1 k = 1 then .inl (cy 0, L.2.2.1 k, .inl (σ.1 k))
  else if L.1 k = 2 then .inl (cy 1, L.2.2.1 k, .inl (σ.1 k))
  else if L.1 k = 3 then .inl (cy 2, L.2.2.1 k, .inr (.inl (σ.2 k)))
  else .inl (cy 3, L.2.2.1 k, .inr (.inr (.inr (.inr (fun j => some (ad (L.2.2.2.2 k j)))))))
def eb_W (N : Nat) (cy : Nat → ClassId) (L : eb_Lay) (ad : Nat → Nat) (σ : eb_St) : va_W := (List.range N).map (fun k => (ad k, eb_cell cy L ad σ k))
def eb_tys (cy : Nat → ClassId) : List (ClassId × FieldType) := [(cy 0, .byte), (cy 1, .int), (cy 2, .long), (cy 3, .object "EnclaveBoard$Enclave")]
theorem eb_W_at {N : Nat} {cy : Nat → ClassId} {L : eb_Lay} {ad : Nat → Nat} {σ : eb_St} {k : Nat} (h : k < N) : (eb_W N cy L ad σ)[k]? = some (ad k, eb_cell cy L ad σ k) := by
  simp [eb_W, h]
theorem eb_W_set {N : Nat} {cy : Nat → ClassId} {L : eb_Lay} {ad : Nat → Nat} {σ τ : eb_St} {k : Nat} {E : va_E} (hE : E = eb_cell cy L ad τ k) (ho : ∀ i, i ≠ k → eb_cell cy L ad σ i = eb_cell cy L ad τ i) : (eb_W N cy L ad σ).set k (ad k, E) = eb_W N cy L ad τ := by
  apply List.ext_getElem?
  intro i
  rw [List.getElem?_set]
  by_cases hk : k = i
  · subst hk
    by_cases hl : k < N
    · simp [eb_W, hl, hE]
    · simp [eb_W, hl]
  · rw [if_neg hk]
    simp only [eb_W, List.getElem?_map]
    rcases Nat.lt_or_ge i N with hi | hi
    · simp [hi, ho i (fun e => hk e.symm)]
    · simp [hi]
theorem eb_cell_pI {cy : Nat → ClassId} {L : eb_Lay} {ad : Nat → Nat} {σ : eb_St} {k j i : Nat} {v : Int32} (h : i ≠ k) : eb_cell cy L ad σ i = eb_cell cy L ad (eb_pI σ k j v) i := by
  have e1 : (eb_pI σ k j v).1 i = σ.1 i := funext fun b => by simp [eb_pI, h]
  have e2 : eb_slot L ad (eb_pI σ k j v) i = eb_slot L ad σ i := funext fun b => by simp [eb_slot, e1, eb_pI, h]
  simp only [eb_cell, e1, e2, show (eb_pI σ k j v).2 = σ.2 from rfl]
theorem eb_cell_pJ {cy : Nat → ClassId} {L : eb_Lay} {ad : Nat → Nat} {σ : eb_St} {k j i : Nat} {v : Int64} (h : i ≠ k) : eb_cell cy L ad σ i = eb_cell cy L ad (eb_pJ σ k j v) i := by
  have e1 : (eb_pJ σ k j v).2 i = σ.2 i := funext fun b => by simp [eb_pJ, h]
  have e2 : eb_slot L ad (eb_pJ σ k j v) i = eb_slot L ad σ i := funext fun b => by simp [eb_slot, e1, eb_pJ, h]
  simp only [eb_cell, e1, e2, show (eb_pJ σ k j v).1 = σ.1 from rfl]
theorem eb_map_set {n j : Nat} {f g : Nat → Value} (h : ∀ i, i ≠ j → f i = g i) : ((List.range n).map f).set j (g j) = (List.range n).map g := by
  apply List.ext_getElem?
  intro i
  rw [List.getElem?_set]
  by_cases hk : j = i
  · subst hk
    by_cases hl : j < n
    · simp [hl]
    · simp [hl]
  · rw [if_neg hk]
    simp only [List.getElem?_map]
    rcases Nat.lt_or_ge i n with hi | hi
    · simp [hi, h i (fun e => hk e.symm)]
    · simp [hi]
/-- the links to a nest mate's private fields, which the words don't keep -/
def eb_nest (U : State) : Prop := va_Nw (.fieldLinkNest RX9 153 RX6 "configs" "[I" RX9) U ∧ va_Nw (.fieldLinkNest RX1 51 RX6 "addresses" "[J" RX9) U ∧ va_Nw (.fieldLinkNest RX9 157 RX6 "addresses" "[J" RX9) U
def eb_K (D : va_G) (cy : Nat → ClassId) (U : State) : Prop := va_K D vwCl (eb_tys cy) U ∧ eb_nest U
theorem eb_K.moved {D : va_G} {cy : Nat → ClassId} {u U : State} (hW : u.WarmedH U.vm) (h : eb_K D cy u) : eb_K D cy U := ⟨va_K.moved hW.alike h.1, va_Nw.warmF hW h.2.1, va_Nw.warmF hW h.2.2.1, va_Nw.warmF hW h.2.2.2⟩
theorem eb_K.same {D : va_G} {cy : Nat → ClassId} {u U : State} (e : u.vm = U.vm) (h : eb_K D cy u) : eb_K D cy U := ⟨va_K.moved (by rw [e]; exact Vm.Alike.refl U.vm) h.1, va_Nw.same rfl e h.2.1, va_Nw.same rfl e h.2.2.1, va_Nw.same rfl e h.2.2.2⟩
/-- the world of a side in a heap, apart, within A, and what was written since H0 -/
def eb_H (D : va_G) (N : Nat) (cy : Nat → ClassId) (L : eb_Lay) (ad : Nat → Nat) (A : Nat → Prop) (H0 : Heap) (σ : eb_St) (H : Heap) (locs : List Loc) : Prop :=
  va_P D vwCl (eb_W N cy L ad σ) H ∧ va_D A (eb_W N cy L ad σ) ∧ va_S A H0 H locs
/-- what a walk of a method knows all along -/
def eb_X (p : Program) (s : State) (m : MethodId) (args : Array Value) (meth : Method) (c : Code) (cc : ByteArray) (nL : Nat) (own : String) (Ts : List Cond) (ret : Option FieldType) (D : va_G) (cy : Nat → ClassId) (A : Nat → Prop) : Prop :=
  CallFix p m c cc nL s args Ts own ∧ eb_K D cy s ∧ meth.sig.returnType = ret ∧ meth.locks = false ∧ ∀ q, s.heap.size ≤ q → A q
/-- what holds behind a method: its answer r, the state τ -/
def eb_Q (D : va_G) (N : Nat) (cy : Nat → ClassId) (L : eb_Lay) (ad : Nat → Nat) (A : Nat → Prop) (r : Option Value) (τ : eb_St) : Array Value → State → Outcome → State → Prop := fun _ st oc t =>
  oc = .returned r ∧ va_P D vwCl (eb_W N cy L ad τ) t.heap ∧ eb_K D cy t ∧ va_D A (eb_W N cy L ad τ) ∧ va_F A st t
def eb_Pc (D : va_G) (N : Nat) (cy : Nat → ClassId) (L : eb_Lay) (ad : Nat → Nat) (σ : eb_St) (sz : Nat) (as : List Value) : Array Value → State → Prop :=
  va_Pc as (fun U => U.heap.size = sz ∧ va_P D vwCl (eb_W N cy L ad σ) U.heap ∧ eb_K D cy U ∧ va_D (fun _ => True) (eb_W N cy L ad σ))
/-- A CONTRACT: from the state σ, with the arguments as, the method answers r and leaves the state τ; nothing else changes, nothing is made -/
def eb_M (l : Launch) (y : MethodName) (ws : List Cond) (fr lo : Nat) (D : va_G) (N : Nat) (cy : Nat → ClassId) (L : eb_Lay) (ad : Nat → Nat) (σ : eb_St) (as : List Value) (r : Option Value) (τ : eb_St) : Prop :=
  ∀ sz : Nat, Met l y ws ({ frames := fr, cells := 0, slots := 0, locals := lo }) (eb_Pc D N cy L ad σ sz as) (eb_Q D N cy L ad (va_A (eb_W N cy L ad σ) sz) r τ) 0 0 (va_A (eb_W N cy L ad σ) sz)
theorem eb_start {l : Launch} {y : MethodName} {ws ws' : List Cond} {fr lo : Nat} {D : va_G} {N : Nat} {cy : Nat → ClassId} {L : eb_Lay} {ad : Nat → Nat} {σ τ : eb_St} {as : List Value} {r : Option Value} {cc : ByteArray} {maxL : Nat} {ret : Option FieldType} {own : String}
    (hy : plainName y.cls = true) (hw : ws = Cond.code y cc maxL ret :: ws') (ho : y.cls = own) (hn : (lg_sl as).length ≤ maxL)
    (body : ∀ (p : Program) (e : Env) (s : State) (m : MethodId) (args : Array Value) (below : List Frame) (meth : Method) (c : Code) (A : Nat → Prop) (ls : Array Slot), eb_X p s m args meth c cc maxL own ws ret D cy A → eb_H D N cy L ad A s.heap σ s.heap [] → lv_has ls maxL (lv_args 0 as) →
      W p l e ({ frames := fr, cells := 0, slots := 0, locals := lo } : Room) s m args below meth c s.heap [] 0 0 (MQ below (eb_Q D N cy L ad A r τ) args s 0 0 A) (F0 m 0 ls [])) : eb_M l y ws fr lo D N cy L ad σ as r τ := by
  intro sz
  refine Met.ofW hy hw ?_
  intro p e s m args below meth c s₁ B hml hv
  obtain ⟨rfl, hsz, hP, hK, hD0⟩ := hv
  subst hsz
  rw [lg_entry_eq]
  have hD := hD0.self (sz := s.heap.size)
  refine body p e s m _ below meth c _ _ ⟨⟨B.exec, B.bytes, hml, ?_, atoms_spec (ws := ws) B.pre⟩, hK, B.returns, B.notSynchronized, fun q h => Or.inr h⟩ ⟨hP, hD, va_S.rf⟩ (lv_entry as hn)
  rw [← ho]
  exact findClass_of_methodNamed B.named
section EB
variable {p : Program} {l : Launch} {e : Env} {R : Room} {s : State} {m : MethodId} {args : Array Value} {below : List Frame} {meth : Method} {c : Code} {H : Heap} {locs : List Loc} {cells slots : Nat} {Q : State → Prop}
variable {cc : ByteArray} {nL pc : Nat} {ls : Array Slot} {rest : List Value} {D : va_G} {A : Nat → Prop} {H0 : Heap} {own : String} {Ts : List Cond} {ret : Option FieldType} {N : Nat} {cy : Nat → ClassId} {L : eb_Lay} {ad : Nat → Nat} {σ : eb_St}
/-- getfield: place j of the object at cell k -/
theorem eb_get (X : eb_X p s m args meth c cc nL own Ts ret D cy A) (hw : eb_H D N cy L ad A H0 σ H locs) {C : String} {T : u_T} {n index : Nat} (k j : Nat) (hk : k < N) (hki : L.1 k = 0 ∧ vwCl[L.2.1 k]? = some (C, T, n) ∧ L.2.2.1 k = n) (hj : j < n)
    (hin : ∀ w ∈ u_ws C T n, w ∈ Ts) (hlink : Cond.fieldLink own index (T j).1 (T j).2.1 (T j).2.2.1 ∈ Ts) {v : Value} (hv : eb_slot L ad σ k j = v) (hdg : decode cc pc = .ok (.getfield index, 3))
    (kk : W p l e R s m args below meth c H locs cells slots Q (F0 m (pc + 3) ls (v :: rest))) : W p l e R s m args below meth c H locs cells slots Q (F0 m pc ls (.ref (ad k) :: rest)) := by
  obtain ⟨⟨hx, hb, hml, hown, hts⟩, hK, hr, hlk, hA⟩ := X
  obtain ⟨hP, hD, hS⟩ := hw
  obtain ⟨h0, hc, hn⟩ := hki
  have he := eb_W_at (cy := cy) (L := L) (ad := ad) (σ := σ) hk
  rw [eb_cell, if_pos h0] at he
  refine va_get hx hb hts hin hown hK.1 hP k he hc j hj (hts _ hlink) (fun _ h9 => h9) (v := v) ?_ hdg kk
  rw [hn]
  simp [hj, hv]
/-- the same, of a nest mate's private field -/
theorem eb_getN (X : eb_X p s m args meth c cc nL own Ts ret D cy A) (hw : eb_H D N cy L ad A H0 σ H locs) {C : String} {T : u_T} {n index : Nat} (k j : Nat) (hk : k < N) (hki : L.1 k = 0 ∧ vwCl[L.2.1 k]? = some (C, T, n) ∧ L.2.2.1 k = n) (hj : j < n)
    (hin : ∀ w ∈ u_ws C T n, w ∈ Ts) {host : String} (hlink : va_Nw (Cond.fieldLinkNest own index (T j).1 (T j).2.1 (T j).2.2.1 host) s) {v : Value} (hv : eb_slot L ad σ k j = v) (hdg : decode cc pc = .ok (.getfield index, 3))
    (kk : W p l e R s m args below meth c H locs cells slots Q (F0 m (pc + 3) ls (v :: rest))) : W p l e R s m args below meth c H locs cells slots Q (F0 m pc ls (.ref (ad k) :: rest)) := by
  obtain ⟨⟨hx, hb, hml, hown, hts⟩, hK, hr, hlk, hA⟩ := X
  obtain ⟨hP, hD, hS⟩ := hw
  obtain ⟨h0, hc, hn⟩ := hki
  have he := eb_W_at (cy := cy) (L := L) (ad := ad) (σ := σ) hk
  rw [eb_cell, if_pos h0] at he
  refine va_getN hx hb hts hin hown hK.1 hP k he hc j hj (va_Nw.use rfl hlink) (fun _ h9 => h9) (v := v) ?_ hdg kk
  rw [hn]
  simp [hj, hv]
theorem eb_putI (X : eb_X p s m args meth c cc nL own Ts ret D cy A) (hw : eb_H D N cy L ad A H0 σ H locs) {C : String} {T : u_T} {n index : Nat} (k j : Nat) (hk : k < N) (hki : L.1 k = 0 ∧ vwCl[L.2.1 k]? = some (C, T, n) ∧ L.2.2.1 k = n) (hj : j < n) (hty : L.2.2.2.1 k j = 0)
    (hin : ∀ w ∈ u_ws C T n, w ∈ Ts) (hlink : Cond.fieldLink own index (T j).1 (T j).2.1 (T j).2.2.1 ∈ Ts) (ty0 : Nat → FieldType) (htys : ∀ k, k < n → parseFieldDescriptor (T k).2.2.1 = some (ty0 k)) (hnm : ∀ a, a < n → ∀ b, b < n → a ≠ b → (T a).2.1 ≠ (T b).2.1) (hfin : (T j).2.2.2 = false)
    {v : Int32} (hn : narrow (ty0 j) (.int v) = .int v) (hfit : fits (ty0 j) (.int v) = true) (hdg : decode cc pc = .ok (.putfield index, 3))
    (kk : ∀ (H1 : Heap) (locs1 : List Loc), eb_H D N cy L ad A H0 (eb_pI σ k j v) H1 locs1 → W p l e R s m args below meth c H1 locs1 cells slots Q (F0 m (pc + 3) ls rest)) : W p l e R s m args below meth c H locs cells slots Q (F0 m pc ls (.int v :: .ref (ad k) :: rest)) := by
  obtain ⟨⟨hx, hb, hml, hown, hts⟩, hK, hr, hlk, hA⟩ := X
  obtain ⟨hP, hD, hS⟩ := hw
  obtain ⟨h0, hc, hnn⟩ := hki
  have he := eb_W_at (cy := cy) (L := L) (ad := ad) (σ := σ) hk
  rw [eb_cell, if_pos h0] at he
  have hset : (eb_W N cy L ad σ).set k (ad k, .inr (L.2.1 k, ((List.range (L.2.2.1 k)).map (eb_slot L ad σ k)).set j (.int v))) = eb_W N cy L ad (eb_pI σ k j v) := by
    refine eb_W_set ?_ (fun i hi => eb_cell_pI hi)
    rw [eb_cell, if_pos h0, ← eb_map_set (j := j) (f := eb_slot L ad σ k) (g := eb_slot L ad (eb_pI σ k j v) k) (fun i hi => by simp [eb_slot, eb_pI, hi])]
    simp [eb_slot, hty, eb_pI]
  refine va_put hx hb hts hin ty0 htys hnm hown hK.1 hP hD hS k he hc j hj (hts _ hlink) (fun _ h9 => h9) hfin (htys j hj) hn hfit (by rw [List.length_map, List.length_range, hnn]; exact hj) hdg ?_
  intro H1 locs1 hP1 hD1 hS1
  rw [hset] at hP1 hD1
  exact kk H1 locs1 ⟨hP1, hD1, hS1⟩
theorem eb_putJ (X : eb_X p s m args meth c cc nL own Ts ret D cy A) (hw : eb_H D N cy L ad A H0 σ H locs) {C : String} {T : u_T} {n index : Nat} (k j : Nat) (hk : k < N) (hki : L.1 k = 0 ∧ vwCl[L.2.1 k]? = some (C, T, n) ∧ L.2.2.1 k = n) (hj : j < n) (hty : L.2.2.2.1 k j = 1)
    (hin : ∀ w ∈ u_ws C T n, w ∈ Ts) (hlink : Cond.fieldLink own index (T j).1 (T j).2.1 (T j).2.2.1 ∈ Ts) (ty0 : Nat → FieldType) (htys : ∀ k, k < n → parseFieldDescriptor (T k).2.2.1 = some (ty0 k)) (hnm : ∀ a, a < n → ∀ b, b < n → a ≠ b → (T a).2.1 ≠ (T b).2.1) (hfin : (T j).2.2.2 = false)
    {v : Int64} (hn : narrow (ty0 j) (.long v) = .long v) (hfit : fits (ty0 j) (.long v) = true) (hdg : decode cc pc = .ok (.putfield index, 3))
    (kk : ∀ (H1 : Heap) (locs1 : List Loc), eb_H D N cy L ad A H0 (eb_pJ σ k j v) H1 locs1 → W p l e R s m args below meth c H1 locs1 cells slots Q (F0 m (pc + 3) ls rest)) : W p l e R s m args below meth c H locs cells slots Q (F0 m pc ls (.long v :: .ref (ad k) :: rest)) := by
  obtain ⟨⟨hx, hb, hml, hown, hts⟩, hK, hr, hlk, hA⟩ := X
  obtain ⟨hP, hD, hS⟩ := hw
  obtain ⟨h0, hc, hnn⟩ := hki
  have he := eb_W_at (cy := cy) (L := L) (ad := ad) (σ := σ) hk
  rw [eb_cell, if_pos h0] at he
  have hset : (eb_W N cy L ad σ).set k (ad k, .inr (L.2.1 k, ((List.range (L.2.2.1 k)).map (eb_slot L ad σ k)).set j (.long v))) = eb_W N cy L ad (eb_pJ σ k j v) := by
    refine eb_W_set ?_ (fun i hi => eb_cell_pJ hi)
    rw [eb_cell, if_pos h0, ← eb_map_set (j := j) (f := eb_slot L ad σ k) (g := eb_slot L ad (eb_pJ σ k j v) k) (fun i hi => by simp [eb_slot, eb_pJ, hi])]
    simp [eb_slot, hty, eb_pJ]
  refine va_put hx hb hts hin ty0 htys hnm hown hK.1 hP hD hS k he hc j hj (hts _ hlink) (fun _ h9 => h9) hfin (htys j hj) hn hfit (by rw [List.length_map, List.length_range, hnn]; exact hj) hdg ?_
  intro H1 locs1 hP1 hD1 hS1
  rw [hset] at hP1 hD1
  exact kk H1 locs1 ⟨hP1, hD1, hS1⟩
theorem eb_arrI {k i : Nat} {v : Int32} (f : Nat → Int32) (hf : f = σ.1 k) : upd f i v = (eb_pI σ k i v).1 k := by
  subst hf
  funext b
  simp [upd, eb_pI]
theorem eb_arrJ {k i : Nat} {v : Int64} (f : Nat → Int64) (hf : f = σ.2 k) : vp_updL f i v = (eb_pJ σ k i v).2 k := by
  subst hf
  funext b
  simp [vp_updL, eb_pJ]
theorem eb_iald (X : eb_X p s m args meth c cc nL own Ts ret D cy A) (hw : eb_H D N cy L ad A H0 σ H locs) (k : Nat) (hk : k < N) (h0 : L.1 k = 2) {n : Nat} (hn : L.2.2.1 k = n) {i : Int32} (hi : vp_in i n) (hdg : decode cc pc = .ok (.iaload, 1))
    (kk : W p l e R s m args below meth c H locs cells slots Q (F0 m (pc + 1) ls (.int (σ.1 k i.toNatClampNeg) :: rest))) : W p l e R s m args below meth c H locs cells slots Q (F0 m pc ls (.int i :: .ref (ad k) :: rest)) := by
  obtain ⟨⟨hx, hb, hml, hown, hts⟩, hK, hr, hlk, hA⟩ := X
  obtain ⟨hP, hD, hS⟩ := hw
  subst hn
  have he := eb_W_at (cy := cy) (L := L) (ad := ad) (σ := σ) hk
  rw [eb_cell, h0] at he
  exact va_iald hx hb hK.1 hP k 1 he rfl hi hdg kk
theorem eb_bald (X : eb_X p s m args meth c cc nL own Ts ret D cy A) (hw : eb_H D N cy L ad A H0 σ H locs) (k : Nat) (hk : k < N) (h0 : L.1 k = 1) {n : Nat} (hn : L.2.2.1 k = n) {i : Int32} (hi : vp_in i n) (hdg : decode cc pc = .ok (.baload, 1))
    (kk : W p l e R s m args below meth c H locs cells slots Q (F0 m (pc + 1) ls (.int (σ.1 k i.toNatClampNeg) :: rest))) : W p l e R s m args below meth c H locs cells slots Q (F0 m pc ls (.int i :: .ref (ad k) :: rest)) := by
  obtain ⟨⟨hx, hb, hml, hown, hts⟩, hK, hr, hlk, hA⟩ := X
  obtain ⟨hP, hD, hS⟩ := hw
  subst hn
  have he := eb_W_at (cy := cy) (L := L) (ad := ad) (σ := σ) hk
  rw [eb_cell, h0] at he
  exact va_bald hx hb hK.1 hP k 0 he rfl hi hdg kk
theorem eb_lald (X : eb_X p s m args meth c cc nL own Ts ret D cy A) (hw : eb_H D N cy L ad A H0 σ H locs) (k : Nat) (hk : k < N) (h0 : L.1 k = 3) {n : Nat} (hn : L.2.2.1 k = n) {i : Int32} (hi : vp_in i n) (hdg : decode cc pc = .ok (.laload, 1))
    (kk : W p l e R s m args below meth c H locs cells slots Q (F0 m (pc + 1) ls (.long (σ.2 k i.toNatClampNeg) :: rest))) : W p l e R s m args below meth c H locs cells slots Q (F0 m pc ls (.int i :: .ref (ad k) :: rest)) := by
  obtain ⟨⟨hx, hb, hml, hown, hts⟩, hK, hr, hlk, hA⟩ := X
  obtain ⟨hP, hD, hS⟩ := hw
  subst hn
  have he := eb_W_at (cy := cy) (L := L) (ad := ad) (σ := σ) hk
  rw [eb_cell, h0] at he
  exact va_lald hx hb hK.1 hP k 2 he rfl hi hdg kk
theorem eb_aald (X : eb_X p s m args meth c cc nL own Ts ret D cy A) (hw : eb_H D N cy L ad A H0 σ H locs) (k : Nat) (hk : k < N) (h0 : L.1 k = 4) {n : Nat} (hn : L.2.2.1 k = n) {i : Int32} (hi : vp_in i n) {a : Nat} (ha : L.2.2.2.2 k i.toNatClampNeg = a) (hdg : decode cc pc = .ok (.aaload, 1))
    (kk : W p l e R s m args below meth c H locs cells slots Q (F0 m (pc + 1) ls (.ref (ad a) :: rest))) : W p l e R s m args below meth c H locs cells slots Q (F0 m pc ls (.int i :: .ref (ad k) :: rest)) := by
  obtain ⟨⟨hx, hb, hml, hown, hts⟩, hK, hr, hlk, hA⟩ := X
  obtain ⟨hP, hD, hS⟩ := hw
  subst hn
  have he := eb_W_at (cy := cy) (L := L) (ad := ad) (σ := σ) hk
  rw [eb_cell, h0] at he
  subst ha
  exact va_aldq hx hb hK.1 hP k 3 he rfl hi hdg kk
theorem eb_iast (X : eb_X p s m args meth c cc nL own Ts ret D cy A) (hw : eb_H D N cy L ad A H0 σ H locs) (k : Nat) (hk : k < N) (h0 : L.1 k = 2) {n : Nat} (hn : L.2.2.1 k = n) {i x : Int32} (hi : vp_in i n) (hdg : decode cc pc = .ok (.iastore, 1))
    (kk : ∀ (H1 : Heap) (locs1 : List Loc), eb_H D N cy L ad A H0 (eb_pI σ k i.toNatClampNeg x) H1 locs1 → W p l e R s m args below meth c H1 locs1 cells slots Q (F0 m (pc + 1) ls rest)) : W p l e R s m args below meth c H locs cells slots Q (F0 m pc ls (.int x :: .int i :: .ref (ad k) :: rest)) := by
  obtain ⟨⟨hx, hb, hml, hown, hts⟩, hK, hr, hlk, hA⟩ := X
  obtain ⟨hP, hD, hS⟩ := hw
  subst hn
  have he := eb_W_at (cy := cy) (L := L) (ad := ad) (σ := σ) hk
  rw [eb_cell, h0] at he
  refine va_iast hx hb hK.1 hP hD hS k 1 he rfl hi hdg ?_
  intro H1 locs1 hP1 hD1 hS1
  rw [eb_W_set (τ := eb_pI σ k i.toNatClampNeg x) (by rw [eb_cell, h0, eb_arrI _ rfl]; rfl) (fun i hi => eb_cell_pI hi)] at hP1 hD1
  exact kk H1 locs1 ⟨hP1, hD1, hS1⟩
theorem eb_bast (X : eb_X p s m args meth c cc nL own Ts ret D cy A) (hw : eb_H D N cy L ad A H0 σ H locs) (k : Nat) (hk : k < N) (h0 : L.1 k = 1) {n : Nat} (hn : L.2.2.1 k = n) {i x : Int32} (hi : vp_in i n) (hdg : decode cc pc = .ok (.bastore, 1))
    (kk : ∀ (H1 : Heap) (locs1 : List Loc), eb_H D N cy L ad A H0 (eb_pI σ k i.toNatClampNeg (vp_nar .byte x)) H1 locs1 → W p l e R s m args below meth c H1 locs1 cells slots Q (F0 m (pc + 1) ls rest)) : W p l e R s m args below meth c H locs cells slots Q (F0 m pc ls (.int x :: .int i :: .ref (ad k) :: rest)) := by
  obtain ⟨⟨hx, hb, hml, hown, hts⟩, hK, hr, hlk, hA⟩ := X
  obtain ⟨hP, hD, hS⟩ := hw
  subst hn
  have he := eb_W_at (cy := cy) (L := L) (ad := ad) (σ := σ) hk
  rw [eb_cell, h0] at he
  refine va_bast hx hb hK.1 hP hD hS k 0 he rfl hi hdg ?_
  intro H1 locs1 hP1 hD1 hS1
  rw [eb_W_set (τ := eb_pI σ k i.toNatClampNeg (vp_nar .byte x)) (by rw [eb_cell, h0, eb_arrI _ rfl]; rfl) (fun i hi => eb_cell_pI hi)] at hP1 hD1
  exact kk H1 locs1 ⟨hP1, hD1, hS1⟩
theorem eb_last (X : eb_X p s m args meth c cc nL own Ts ret D cy A) (hw : eb_H D N cy L ad A H0 σ H locs) (k : Nat) (hk : k < N) (h0 : L.1 k = 3) {n : Nat} (hn : L.2.2.1 k = n) {i : Int32} {x : Int64} (hi : vp_in i n) (hdg : decode cc pc = .ok (.lastore, 1))
    (kk : ∀ (H1 : Heap) (locs1 : List Loc), eb_H D N cy L ad A H0 (eb_pJ σ k i.toNatClampNeg x) H1 locs1 → W p l e R s m args below meth c H1 locs1 cells slots Q (F0 m (pc + 1) ls rest)) : W p l e R s m args below meth c H locs cells slots Q (F0 m pc ls (.long x :: .int i :: .ref (ad k) :: rest)) := by
  obtain ⟨⟨hx, hb, hml, hown, hts⟩, hK, hr, hlk, hA⟩ := X
  obtain ⟨hP, hD, hS⟩ := hw
  subst hn
  have he := eb_W_at (cy := cy) (L := L) (ad := ad) (σ := σ) hk
  rw [eb_cell, h0] at he
  refine va_last hx hb hK.1 hP hD hS k 2 he rfl hi hdg ?_
  intro H1 locs1 hP1 hD1 hS1
  rw [eb_W_set (τ := eb_pJ σ k i.toNatClampNeg x) (by rw [eb_cell, h0, eb_arrJ _ rfl]; rfl) (fun i hi => eb_cell_pJ hi)] at hP1 hD1
  exact kk H1 locs1 ⟨hP1, hD1, hS1⟩
theorem eb_alen (X : eb_X p s m args meth c cc nL own Ts ret D cy A) (hw : eb_H D N cy L ad A H0 σ H locs) (k : Nat) (hk : k < N) (t : Nat) (h0 : L.1 k = t + 1) (ht : t < 4) {v : Int32} (hv : Int32.ofNat (L.2.2.1 k) = v) (hdg : decode cc pc = .ok (.arraylength, 1))
    (kk : W p l e R s m args below meth c H locs cells slots Q (F0 m (pc + 1) ls (.int v :: rest))) : W p l e R s m args below meth c H locs cells slots Q (F0 m pc ls (.ref (ad k) :: rest)) := by
  obtain ⟨⟨hx, hb, hml, hown, hts⟩, hK, hr, hlk, hA⟩ := X
  obtain ⟨hP, hD, hS⟩ := hw
  have he := eb_W_at (cy := cy) (L := L) (ad := ad) (σ := σ) hk
  rw [eb_cell, h0] at he
  subst hv
  rcases (show t = 0 ∨ t = 1 ∨ t = 2 ∨ t = 3 by omega) with rfl | rfl | rfl | rfl
  · exact va_alen hx hb hK.1 hP k 0 he (ty := .byte) rfl rfl hdg kk
  · exact va_alen hx hb hK.1 hP k 1 he (ty := .int) rfl rfl hdg kk
  · exact va_alen hx hb hK.1 hP k 2 he (ty := .long) rfl rfl hdg kk
  · exact va_alen hx hb hK.1 hP k 3 he (ty := .object "EnclaveBoard$Enclave") rfl rfl hdg kk
end EB
section EC
variable {p : Program} {l : Launch} {e : Env} {R : Room} {s : State} {m : MethodId} {args : Array Value} {below : List Frame} {meth : Method} {c : Code} {H : Heap} {locs : List Loc} {cells slots : Nat} {Q : State → Prop}
variable {cc : ByteArray} {nL pc : Nat} {ls : Array Slot} {rest : List Value} {D : va_G} {A : Nat → Prop} {own : String} {Ts : List Cond} {ret : Option FieldType} {N : Nat} {cy : Nat → ClassId} {L : eb_Lay} {ad : Nat → Nat} {σ : eb_St}
theorem eb_blind {as : List Value} {sz : Nat} : FrameBlind (eb_Pc D N cy L ad σ sz as) := fun a U g mk q => by
  obtain ⟨q0, q1, qP, qK, qD⟩ := q
  exact ⟨q0, q1, qP, eb_K.same (u := U) (U := U.calling g mk a) rfl qK, qD⟩
/-- behind a call: the state is the callee's -/
theorem eb_behind {st st' : List Value} {r : Option Value} {τ : eb_St} {as : Array Value} (X : eb_X p s m args meth c cc nL own Ts ret D cy A) (hw : eb_H D N cy L ad A s.heap σ H locs)
    (hr : va_Run p l e R s m args below meth c H locs cells slots 0 0 (F0 m pc ls st) rest (eb_Q D N cy L ad (va_A (eb_W N cy L ad σ) H.size) r τ as) (va_A (eb_W N cy L ad σ) H.size))
    (hst' : r.toList ++ rest = st')
    (kk : ∀ (H1 : Heap) (locs1 : List Loc), eb_H D N cy L ad A s.heap τ H1 locs1 → W p l e R s m args below meth c H1 locs1 cells slots Q (F0 m (pc + 3) ls st')) : W p l e R s m args below meth c H locs cells slots Q (F0 m pc ls st) := by
  obtain ⟨⟨hx, hb, hml, hown, hts⟩, hK, hret, hlk, hA⟩ := X
  obtain ⟨hP, hD, hS⟩ := hw
  subst hst'
  have hF : ∀ q, va_A (eb_W N cy L ad σ) H.size q → A q := fun q h => h.elim (fun ⟨k, _, h⟩ => hD.2 k _ h) (fun h => hA q (Nat.le_trans hS.1 h))
  intro T hT X
  obtain ⟨v, st₀, t, T', L', h0, X', hL, e1, e2, ⟨hv, hP1, hK1, hD1, hz, hk⟩, st⟩ := hr T hT X
  cases hv
  rw [h0] at hz hk
  obtain ⟨t2, a1, b1⟩ := kk T'.heap (locs ++ L') ⟨by rw [e1]; exact hP1, hD1.weaken (fun _ _ _ h => hF _ h), ⟨Nat.le_trans hS.1 (by rw [e1]; exact hz), fun q h1 h2 => by rw [e1, hk q (Nat.lt_of_lt_of_le h1 hS.1) (fun z => h2 (hF q z))]; exact hS.2.1 q h1 h2, fun q hq => by
      rcases List.mem_append.mp hq with h | h
      · exact hS.2.2 q h
      · exact hF _ (hL q h)⟩⟩ T' rfl X'
  exact ⟨t2, st t2 a1, b1⟩
/-- invokestatic -/
theorem eb_callS (X : eb_X p s m args meth c cc nL own Ts ret D cy A) (hw : eb_H D N cy L ad A s.heap σ H locs) (hl : ls.size = nL) {y : MethodName} {ws ws' : List Cond} {bytes : ByteArray} {maxL fr lo index n : Nat} {rt : Option FieldType} {as st st' : List Value} {r : Option Value} {τ : eb_St}
    (hM : eb_M l y ws fr lo D N cy L ad σ as r τ) (hG : GoodIn Ts (va_wsS own index y ws)) (hws : ws = Cond.code y bytes maxL rt :: ws')
    (hd : y.cls ≠ "java/lang/invoke/MethodHandle" ∧ y.cls ≠ "java/lang/invoke/VarHandle" ∧ (parseMethodDescriptor y.desc).map (fun d => d.parameters.length) = some n) (hR : fr + 1 ≤ R.frames ∧ 8 + (maxL + 11) + lo ≤ R.locals) (hn : as.length = n) (hst : st = as.reverse ++ rest) (hW : (rest.map fun v => v.category).sum ≤ 8)
    (hdg : decode cc pc = .ok (.invokestatic index, 3)) (hf : cells ≤ R.cells ∧ slots ≤ R.slots)
    (hst' : r.toList ++ rest = st')
    (kk : ∀ (H1 : Heap) (locs1 : List Loc), eb_H D N cy L ad A s.heap τ H1 locs1 → W p l e R s m args below meth c H1 locs1 cells slots Q (F0 m (pc + 3) ls st')) : W p l e R s m args below meth c H locs cells slots Q (F0 m pc ls st) := by
  have X0 := X
  obtain ⟨S, hK, hret, hlk, hA⟩ := X0
  have hw0 := hw
  obtain ⟨hP, hD, hS⟩ := hw0
  refine eb_behind (st := st) (as := as.toArray) X hw (va_runS (As := as) S (hM H.size) (va_cwS n S.2.2.2.2 hG hws rfl rfl hd hR) ⟨eb_blind, fun U hU hW => ⟨rfl, by rw [hU], by rw [hU]; exact hP, eb_K.moved hW hK, hD.weaken (fun _ _ _ _ => trivial)⟩⟩ rfl hn hl hst (lv_room hW) hdg hf) hst' kk
/-- invokevirtual, of a method of the object at cell k -/
theorem eb_callV (X : eb_X p s m args meth c cc nL own Ts ret D cy A) (hw : eb_H D N cy L ad A s.heap σ H locs) (hl : ls.size = nL) {y : MethodName} {ws ws' : List Cond} {bytes : ByteArray} {maxL fr lo index n : Nat} {rt : Option FieldType} {as st st' : List Value} {r : Option Value} {τ : eb_St} {C : String} {T : u_T} {nf : Nat} (k : Nat)
    (hM : eb_M l y ws fr lo D N cy L ad σ (.ref (ad k) :: as) r τ) (hk : k < N) (hki : L.1 k = 0 ∧ vwCl[L.2.1 k]? = some (C, T, nf) ∧ L.2.2.1 k = nf) (hG : GoodIn Ts (wsV own index C y ws)) (hws : ws = Cond.code y bytes maxL rt :: ws')
    (hd : y.cls = C ∧ y.cls ≠ "java/lang/invoke/MethodHandle" ∧ y.cls ≠ "java/lang/invoke/VarHandle" ∧ (parseMethodDescriptor y.desc).map (fun d => d.parameters.length) = some n) (hR : fr + 1 ≤ R.frames ∧ 8 + (maxL + 11) + lo ≤ R.locals) (hn : as.length = n) (hst : st = as.reverse ++ .ref (ad k) :: rest) (hW : (rest.map fun v => v.category).sum ≤ 8)
    (hdg : decode cc pc = .ok (.invokevirtual index, 3)) (hf : cells ≤ R.cells ∧ slots ≤ R.slots)
    (hst' : r.toList ++ rest = st')
    (kk : ∀ (H1 : Heap) (locs1 : List Loc), eb_H D N cy L ad A s.heap τ H1 locs1 → W p l e R s m args below meth c H1 locs1 cells slots Q (F0 m (pc + 3) ls st')) : W p l e R s m args below meth c H locs cells slots Q (F0 m pc ls st) := by
  have X0 := X
  obtain ⟨S, hK, hret, hlk, hA⟩ := X0
  have hw0 := hw
  obtain ⟨hP, hD, hS⟩ := hw0
  obtain ⟨h0, hc, hnn⟩ := hki
  have he := eb_W_at (cy := cy) (L := L) (ad := ad) (σ := σ) hk
  rw [eb_cell, if_pos h0] at he
  refine eb_behind (st := st) (as := (Value.ref (ad k) :: as).toArray) X hw (va_runV (As := as) (C := C) S (hM H.size) (cwV n S.2.2.2.2 hG hws rfl rfl hd hR) ⟨eb_blind, va_recv hK.1 hP hc he, fun U hU hW => ⟨rfl, by rw [hU], by rw [hU]; exact hP, eb_K.moved hW hK, hD.weaken (fun _ _ _ _ => trivial)⟩⟩ rfl hn hl hst (lv_room hW) hdg hf) hst' kk
/-- the ends -/
theorem eb_iret (X : eb_X p s m args meth c cc nL own Ts ret D cy A) (hw : eb_H D N cy L ad A s.heap σ H locs) {r : Option Value} {τ : eb_St} {v : Int32} (hr : ret = some .int) (h1 : r = some (.int v)) (h2 : τ = σ) (hdg : decode cc pc = .ok (.ireturn, 1)) : W p l e R s m args below meth c H locs cells slots (MQ below (eb_Q D N cy L ad A r τ) args s cells slots A) (F0 m pc ls [.int v]) := by
  obtain ⟨⟨hx, hb, hml, hown, hts⟩, hK, hret, hlk, hA⟩ := X
  obtain ⟨hP, hD, hS⟩ := hw
  subst h1; subst h2
  exact W.iret hx hb (hret.trans hr) (fun t ht hW => ⟨rfl, by rw [ht]; exact hP, eb_K.moved hW hK, hD, hS.F ht⟩) hS.2.2 hdg hlk
theorem eb_zret (X : eb_X p s m args meth c cc nL own Ts ret D cy A) (hw : eb_H D N cy L ad A s.heap σ H locs) {r : Option Value} {τ : eb_St} {v : Int32} (hr : ret = some .boolean) (hv : narrow .boolean (.int v) = .int v) (h1 : r = some (.int v)) (h2 : τ = σ) (hdg : decode cc pc = .ok (.ireturn, 1)) : W p l e R s m args below meth c H locs cells slots (MQ below (eb_Q D N cy L ad A r τ) args s cells slots A) (F0 m pc ls [.int v]) := by
  obtain ⟨⟨hx, hb, hml, hown, hts⟩, hK, hret, hlk, hA⟩ := X
  obtain ⟨hP, hD, hS⟩ := hw
  subst h1; subst h2
  exact W.zret hx hb (hret.trans hr) hv (fun t ht hW => ⟨rfl, by rw [ht]; exact hP, eb_K.moved hW hK, hD, hS.F ht⟩) hS.2.2 hdg hlk
theorem eb_lret (X : eb_X p s m args meth c cc nL own Ts ret D cy A) (hw : eb_H D N cy L ad A s.heap σ H locs) {r : Option Value} {τ : eb_St} {v : Int64} (hr : ret = some .long) (h1 : r = some (.long v)) (h2 : τ = σ) (hdg : decode cc pc = .ok (.lreturn, 1)) : W p l e R s m args below meth c H locs cells slots (MQ below (eb_Q D N cy L ad A r τ) args s cells slots A) (F0 m pc ls [.long v]) := by
  obtain ⟨⟨hx, hb, hml, hown, hts⟩, hK, hret, hlk, hA⟩ := X
  obtain ⟨hP, hD, hS⟩ := hw
  subst h1; subst h2
  exact W.lret hx hb (hret.trans hr) (fun t ht hW => ⟨rfl, by rw [ht]; exact hP, eb_K.moved hW hK, hD, hS.F ht⟩) hS.2.2 hdg hlk
theorem eb_vret (X : eb_X p s m args meth c cc nL own Ts ret D cy A) (hw : eb_H D N cy L ad A s.heap σ H locs) {τ : eb_St} (hr : ret = none) (h2 : τ = σ) (hdg : decode cc pc = .ok (.return_, 1)) : W p l e R s m args below meth c H locs cells slots (MQ below (eb_Q D N cy L ad A none τ) args s cells slots A) (F0 m pc ls []) := by
  obtain ⟨⟨hx, hb, hml, hown, hts⟩, hK, hret, hlk, hA⟩ := X
  obtain ⟨hP, hD, hS⟩ := hw
  subst h2
  exact W.vret hx hb (hret.trans hr) (fun t ht hW => ⟨rfl, by rw [ht]; exact hP, eb_K.moved hW hK, hD, hS.F ht⟩) hS.2.2 hdg hlk
theorem eb_aret (X : eb_X p s m args meth c cc nL own Ts ret D cy A) (hw : eb_H D N cy L ad A s.heap σ H locs) {r : Option Value} {τ : eb_St} {a : Nat} {nm : String} (hr : ret = some (.object nm)) (h1 : r = some (.ref a)) (h2 : τ = σ) (hdg : decode cc pc = .ok (.areturn, 1)) : W p l e R s m args below meth c H locs cells slots (MQ below (eb_Q D N cy L ad A r τ) args s cells slots A) (F0 m pc ls [.ref a]) := by
  obtain ⟨⟨hx, hb, hml, hown, hts⟩, hK, hret, hlk, hA⟩ := X
  obtain ⟨hP, hD, hS⟩ := hw
  subst h1; subst h2
  exact W.aret hx hb (hret.trans hr) (Or.inl ⟨nm, rfl⟩) (Or.inr ⟨a, rfl⟩) (fun t ht hW => ⟨rfl, by rw [ht]; exact hP, eb_K.moved hW hK, hD, hS.F ht⟩) hS.2.2 hdg hlk
end EC

/-- words: all methods' contracts stand on the one list -/
theorem eb_goodS {own : String} {idx n : Nat} {y : MethodName} {cc : ByteArray} {rt : Option FieldType} {z : Cond} (h1 : Cond.methodLink own idx y ∈ wsL_law) (h2 : Cond.static y ∈ wsL_law) (h3 : Cond.initialized y.cls ∈ wsL_law) (h4 : Cond.code y cc n rt ∈ wsL_law) : GoodIn (z :: wsL_law) (va_wsS own idx y (Cond.code y cc n rt :: wsL_law)) := by
  intro w hw
  have hm : w ∈ wsL_law := by
    rcases List.mem_append.mp hw with h | h
    · rcases List.mem_cons.mp h with rfl | h
      · exact h1
      · rcases List.mem_cons.mp h with rfl | h
        · exact h2
        · rw [List.mem_singleton.mp h]; exact h3
    · rcases List.mem_cons.mp h with rfl | h
      · exact h4
      · exact h
  exact ⟨List.mem_cons_of_mem _ hm, good_of_word (List.all_eq_true.mp gd_all w hm)⟩
theorem eb_goodV {own C : String} {idx n : Nat} {y : MethodName} {cc : ByteArray} {rt : Option FieldType} {z : Cond} (h1 : Cond.methodLink own idx y ∈ wsL_law) (h2 : Cond.instanceMethod y ∈ wsL_law) (h5 : Cond.selects C y y ∈ wsL_law) (h3 : Cond.initialized C ∈ wsL_law) (h4 : Cond.code y cc n rt ∈ wsL_law) : GoodIn (z :: wsL_law) (wsV own idx C y (Cond.code y cc n rt :: wsL_law)) := by
  intro w hw
  have hm : w ∈ wsL_law := by
    rcases List.mem_append.mp hw with h | h
    · rcases List.mem_cons.mp h with rfl | h
      · exact h1
      · rcases List.mem_cons.mp h with rfl | h
        · exact h2
        · rcases List.mem_cons.mp h with rfl | h
          · exact h5
          · rw [List.mem_singleton.mp h]; exact h3
    · rcases List.mem_cons.mp h with rfl | h
      · exact h4
      · exact h
  exact ⟨List.mem_cons_of_mem _ hm, good_of_word (List.all_eq_true.mp gd_all w hm)⟩
def eb_b (b : Bool) : Int32 := if b = true then 1 else 0
theorem eb_b_nar (b : Bool) : narrow .boolean (.int (eb_b b)) = .int (eb_b b) := by cases b <;> rfl
theorem eb_b_0 (b : Bool) : eb_b b = 0 ↔ b = false := by cases b <;> decide
def eb_iushr (x y : Int32) : Int32 := (x.toUInt32 >>> (y.toUInt32 &&& Int32.toUInt32 31)).toInt32
def eb_lushr (x : Int64) (y : Int32) : Int64 := (x.toUInt64 >>> (y.toInt64.toUInt64 &&& Int64.toUInt64 63)).toInt64
def eb_lshl (x : Int64) (y : Int32) : Int64 := x <<< (y.toInt64 &&& 63)
def eb_lshr (x : Int64) (y : Int32) : Int64 := x >>> (y.toInt64 &&& 63)
section EL
variable {p : Program} {l : Launch} {e : Env} {R : Room} {s : State} {m : MethodId} {args : Array Value} {below : List Frame} {meth : Method} {c : Code} {H : Heap} {locs : List Loc} {cells slots : Nat} {Q : State → Prop}
variable {cc : ByteArray} {pc : Nat} {ls : Array Slot} {rest : List Value} {x y : Int64} {off : Int} {tgt : Nat}
theorem eb_lif_lt (hx : p.tables.exec = Jvm.exec) (hb : c.code = cc) (h1 : decode cc pc = .ok (.lcmp, 1)) (h2 : decode cc (pc + 1) = .ok (.ifCond .lt off, 3)) (ht : ((pc + 1 : Nat) : Int) + off = (tgt : Int)) (kt : x < y → W p l e R s m args below meth c H locs cells slots Q (F0 m tgt ls rest)) (kf : ¬ x < y → W p l e R s m args below meth c H locs cells slots Q (F0 m (pc + 1 + 3) ls rest)) : W p l e R s m args below meth c H locs cells slots Q (F0 m pc ls (.long y :: .long x :: rest)) :=
  W.lcmp hx hb h1 (lv_if_lt hx hb h2 ht (fun h => kt ((lg_cmp_lt x y).mp h)) (fun h => kf (fun q => h ((lg_cmp_lt x y).mpr q))))
theorem eb_lif_ge (hx : p.tables.exec = Jvm.exec) (hb : c.code = cc) (h1 : decode cc pc = .ok (.lcmp, 1)) (h2 : decode cc (pc + 1) = .ok (.ifCond .ge off, 3)) (ht : ((pc + 1 : Nat) : Int) + off = (tgt : Int)) (kt : y ≤ x → W p l e R s m args below meth c H locs cells slots Q (F0 m tgt ls rest)) (kf : ¬ y ≤ x → W p l e R s m args below meth c H locs cells slots Q (F0 m (pc + 1 + 3) ls rest)) : W p l e R s m args below meth c H locs cells slots Q (F0 m pc ls (.long y :: .long x :: rest)) :=
  W.lcmp hx hb h1 (lv_if_ge hx hb h2 ht (fun h => kt ((lg_cmp_ge x y).mp h)) (fun h => kf (fun q => h ((lg_cmp_ge x y).mpr q))))
theorem eb_lif_gt (hx : p.tables.exec = Jvm.exec) (hb : c.code = cc) (h1 : decode cc pc = .ok (.lcmp, 1)) (h2 : decode cc (pc + 1) = .ok (.ifCond .gt off, 3)) (ht : ((pc + 1 : Nat) : Int) + off = (tgt : Int)) (kt : y < x → W p l e R s m args below meth c H locs cells slots Q (F0 m tgt ls rest)) (kf : ¬ y < x → W p l e R s m args below meth c H locs cells slots Q (F0 m (pc + 1 + 3) ls rest)) : W p l e R s m args below meth c H locs cells slots Q (F0 m pc ls (.long y :: .long x :: rest)) :=
  W.lcmp hx hb h1 (lv_if_gt hx hb h2 ht (fun h => kt ((lg_cmp_gt x y).mp h)) (fun h => kf (fun q => h ((lg_cmp_gt x y).mpr q))))
theorem eb_lif_le (hx : p.tables.exec = Jvm.exec) (hb : c.code = cc) (h1 : decode cc pc = .ok (.lcmp, 1)) (h2 : decode cc (pc + 1) = .ok (.ifCond .le off, 3)) (ht : ((pc + 1 : Nat) : Int) + off = (tgt : Int)) (kt : x ≤ y → W p l e R s m args below meth c H locs cells slots Q (F0 m tgt ls rest)) (kf : ¬ x ≤ y → W p l e R s m args below meth c H locs cells slots Q (F0 m (pc + 1 + 3) ls rest)) : W p l e R s m args below meth c H locs cells slots Q (F0 m pc ls (.long y :: .long x :: rest)) :=
  W.lcmp hx hb h1 (lv_if_le hx hb h2 ht (fun h => kt ((lg_cmp_le x y).mp h)) (fun h => kf (fun q => h ((lg_cmp_le x y).mpr q))))
theorem eb_lif_eq (hx : p.tables.exec = Jvm.exec) (hb : c.code = cc) (h1 : decode cc pc = .ok (.lcmp, 1)) (h2 : decode cc (pc + 1) = .ok (.ifCond .eq off, 3)) (ht : ((pc + 1 : Nat) : Int) + off = (tgt : Int)) (kt : x = y → W p l e R s m args below meth c H locs cells slots Q (F0 m tgt ls rest)) (kf : ¬ x = y → W p l e R s m args below meth c H locs cells slots Q (F0 m (pc + 1 + 3) ls rest)) : W p l e R s m args below meth c H locs cells slots Q (F0 m pc ls (.long y :: .long x :: rest)) :=
  W.lcmp hx hb h1 (lv_if_eq hx hb h2 ht (fun h => kt ((lg_cmp_eq x y).mp h)) (fun h => kf (fun q => h ((lg_cmp_eq x y).mpr q))))
theorem eb_lif_ne (hx : p.tables.exec = Jvm.exec) (hb : c.code = cc) (h1 : decode cc pc = .ok (.lcmp, 1)) (h2 : decode cc (pc + 1) = .ok (.ifCond .ne off, 3)) (ht : ((pc + 1 : Nat) : Int) + off = (tgt : Int)) (kt : ¬ x = y → W p l e R s m args below meth c H locs cells slots Q (F0 m tgt ls rest)) (kf : x = y → W p l e R s m args below meth c H locs cells slots Q (F0 m (pc + 1 + 3) ls rest)) : W p l e R s m args below meth c H locs cells slots Q (F0 m pc ls (.long y :: .long x :: rest)) :=
  W.lcmp hx hb h1 (lv_if_ne hx hb h2 ht (fun h => kt (fun q => h ((lg_cmp_eq x y).mpr q))) (fun h => kf ((lg_cmp_eq x y).mp h)))
end EL
/-- THE CLASS: 0 the board, 1 its memory, 2 the words, 3 the PMP, 4 configs, 5 addresses, 6 low, 7 high, 8 the CSRs, 9 the hart, 10 the monitor, 11 the request, 12 the places, 13+e the enclave e, 19+r the registers of e (r = 6: the host), 26+r their row -/
def cL_k : List Nat := [0, 0, 3, 0, 2, 3, 2, 2, 0, 0, 0, 0, 4, 0, 0, 0, 0, 0, 0, 0, 0, 0, 0, 0, 0, 0, 3, 3, 3, 3, 3, 3, 3]
def cL_c : List Nat := [8, 3, 0, 5, 0, 0, 0, 0, 0, 2, 4, 7, 0, 1, 1, 1, 1, 1, 1, 6, 6, 6, 6, 6, 6, 6, 0, 0, 0, 0, 0, 0, 0]
def cL_n : List Nat := [9, 1, 8192, 4, 16, 16, 16, 16, 7, 6, 14, 7, 6, 11, 11, 11, 11, 11, 11, 2, 2, 2, 2, 2, 2, 2, 32, 32, 32, 32, 32, 32, 32]
def cL_t : List (List Nat) := [[2, 2, 2, 2, 2, 2, 0, 0, 1], [2], [], [2, 2, 2, 2], [], [], [], [], [2, 0, 1, 1, 1, 1, 0], [2, 2, 2, 0, 1, 1], [1, 2, 2, 2, 2, 2, 0, 1, 1, 0, 0, 0, 0, 0], [1, 1, 1, 1, 1, 1, 1], [], [2, 0, 0, 0, 0, 0, 0, 0, 0, 1, 1], [2, 0, 0, 0, 0, 0, 0, 0, 0, 1, 1], [2, 0, 0, 0, 0, 0, 0, 0, 0, 1, 1], [2, 0, 0, 0, 0, 0, 0, 0, 0, 1, 1], [2, 0, 0, 0, 0, 0, 0, 0, 0, 1, 1], [2, 0, 0, 0, 0, 0, 0, 0, 0, 1, 1], [2, 1], [2, 1], [2, 1], [2, 1], [2, 1], [2, 1], [2, 1], [], [], [], [], [], [], []]
def cL_g : List (List Nat) := [[1, 3, 8, 25, 9, 10], [2], [], [4, 5, 6, 7], [], [], [], [], [3], [1, 3, 8], [0, 1, 3, 25, 11, 12], [], [], [19], [20], [21], [22], [23], [24], [26], [27], [28], [29], [30], [31], [32], [], [], [], [], [], [], []]
def cL : eb_Lay := (fun k => cL_k.getD k 0, fun k => cL_c.getD k 0, fun k => cL_n.getD k 0, fun k j => (cL_t.getD k []).getD j 0, fun k j => if k = 12 then 13 + j else (cL_g.getD k []).getD j 0)
/-- THE REFERENCE: 0 the object, then its rows in the order of its fields: 1 mem, 2 reg, 3 pcs, 4 cfg, 5 address, 6 what, 7 base, 8 size, 9 entry, 10 shared, 11 sharedSize, 12 staysOf, 13 stepsOf, 14 measure, 15 low, 16 high, 17 copied -/
def rL_k : List Nat := [0, 1, 3, 3, 2, 3, 2, 2, 2, 2, 2, 2, 2, 2, 3, 3, 3, 1]
def rL_n : List Nat := [44, 65536, 224, 7, 16, 16, 6, 6, 6, 6, 6, 6, 6, 6, 6, 16, 16, 16384]
def rL_t : List Nat := [1, 2, 2, 2, 0, 0, 0, 1, 0, 0, 0, 0, 0, 0, 0, 1, 1, 1, 1, 1, 2, 2, 2, 2, 2, 2, 2, 2, 2, 2, 2, 1, 0, 2, 2, 0, 1, 0, 0, 0, 0, 0, 0, 2]
def rL_g : List Nat := [0, 1, 2, 3, 0, 0, 0, 0, 0, 0, 0, 0, 0, 0, 0, 0, 0, 0, 0, 0, 4, 5, 6, 7, 8, 9, 10, 11, 12, 13, 14, 0, 0, 15, 16, 0, 0, 0, 0, 0, 0, 0, 0, 17]
def rL : eb_Lay := (fun k => rL_k.getD k 0, fun _ => 9, fun k => rL_n.getD k 0, fun k j => if k = 0 then rL_t.getD j 0 else 0, fun k j => if k = 0 then rL_g.getD j 0 else 0)
theorem cE_i {e : Nat} (he : e < 6) : cL.1 (13 + e) = 0 ∧ vwCl[cL.2.1 (13 + e)]? = some (RX2, TX2, 11) ∧ cL.2.2.1 (13 + e) = 11 := by
  rcases (show e = 0 ∨ e = 1 ∨ e = 2 ∨ e = 3 ∨ e = 4 ∨ e = 5 by omega) with rfl | rfl | rfl | rfl | rfl | rfl <;> exact ⟨rfl, rfl, rfl⟩
theorem cR_i {r : Nat} (hr : r < 7) : cL.1 (19 + r) = 0 ∧ vwCl[cL.2.1 (19 + r)]? = some (RX7, TX7, 2) ∧ cL.2.2.1 (19 + r) = 2 := by
  rcases (show r = 0 ∨ r = 1 ∨ r = 2 ∨ r = 3 ∨ r = 4 ∨ r = 5 ∨ r = 6 by omega) with rfl | rfl | rfl | rfl | rfl | rfl | rfl <;> exact ⟨rfl, rfl, rfl⟩
theorem cX_i {r : Nat} (hr : r < 7) : cL.1 (26 + r) = 3 ∧ cL.2.2.1 (26 + r) = 32 := by
  rcases (show r = 0 ∨ r = 1 ∨ r = 2 ∨ r = 3 ∨ r = 4 ∨ r = 5 ∨ r = 6 by omega) with rfl | rfl | rfl | rfl | rfl | rfl | rfl <;> exact ⟨rfl, rfl⟩
theorem cE_t {e : Nat} (he : e < 6) (j : Nat) : cL.2.2.2.1 (13 + e) j = [2, 0, 0, 0, 0, 0, 0, 0, 0, 1, 1].getD j 0 := by
  rcases (show e = 0 ∨ e = 1 ∨ e = 2 ∨ e = 3 ∨ e = 4 ∨ e = 5 by omega) with rfl | rfl | rfl | rfl | rfl | rfl <;> rfl
theorem cR_t {r : Nat} (hr : r < 7) (j : Nat) : cL.2.2.2.1 (19 + r) j = [2, 1].getD j 0 := by
  rcases (show r = 0 ∨ r = 1 ∨ r = 2 ∨ r = 3 ∨ r = 4 ∨ r = 5 ∨ r = 6 by omega) with rfl | rfl | rfl | rfl | rfl | rfl | rfl <;> rfl
theorem cE_g {e : Nat} (he : e < 6) : cL.2.2.2.2 (13 + e) 0 = 19 + e := by
  rcases (show e = 0 ∨ e = 1 ∨ e = 2 ∨ e = 3 ∨ e = 4 ∨ e = 5 by omega) with rfl | rfl | rfl | rfl | rfl | rfl <;> rfl
theorem cR_g {r : Nat} (hr : r < 7) : cL.2.2.2.2 (19 + r) 0 = 26 + r := by
  rcases (show r = 0 ∨ r = 1 ∨ r = 2 ∨ r = 3 ∨ r = 4 ∨ r = 5 ∨ r = 6 by omega) with rfl | rfl | rfl | rfl | rfl | rfl | rfl <;> rfl
theorem eb_sI {L : eb_Lay} {ad : Nat → Nat} {σ : eb_St} {k j : Nat} (h : L.2.2.2.1 k j = 0) : eb_slot L ad σ k j = .int (σ.1 k j) := by rw [eb_slot, if_pos h]
theorem eb_sJ {L : eb_Lay} {ad : Nat → Nat} {σ : eb_St} {k j : Nat} (h : L.2.2.2.1 k j = 1) : eb_slot L ad σ k j = .long (σ.2 k j) := by rw [eb_slot, h]; rfl
theorem eb_sR {L : eb_Lay} {ad : Nat → Nat} {σ : eb_St} {k j q : Nat} (h : L.2.2.2.1 k j = 2) (hq : L.2.2.2.2 k j = q) : eb_slot L ad σ k j = .ref (ad q) := by rw [eb_slot, h, hq]; rfl

theorem eb_up {v x B : Int32} {n : Nat} (h0 : 0 ≤ v.toInt) (h : v < B) (e : x = v + 1) (hn : (B.toInt - v.toInt).toNat < n + 1) : 0 ≤ x.toInt ∧ (B.toInt - x.toInt).toNat < n := by
  have h1 : v.toInt < B.toInt := Int32.lt_iff_toInt_lt.mp h
  have h2 := B.toInt_le
  have h3 : Int32.maxValue.toInt = 2147483647 := by decide
  have e1 : x.toInt = v.toInt + 1 := by
    rw [e, Int32.toInt_add, show (1 : Int32).toInt = 1 by decide]
    exact Int.bmod_eq_of_le (by omega) (by omega)
  omega
theorem eb_dn {v x : Int32} {n : Nat} (h : 0 ≤ v) (e : x = v + (-1)) (hn : (v.toInt + 1).toNat < n + 1) : -1 ≤ x.toInt ∧ (x.toInt + 1).toNat < n ∧ x.toInt = v.toInt - 1 := by
  have h1 : (0 : Int32).toInt ≤ v.toInt := Int32.le_iff_toInt_le.mp h
  rw [show (0 : Int32).toInt = 0 by decide] at h1
  have h2 := v.toInt_le
  have h3 : Int32.maxValue.toInt = 2147483647 := by decide
  have e1 : x.toInt = v.toInt - 1 := by
    rw [e, Int32.toInt_add, show (-1 : Int32).toInt = -1 by decide]
    exact Int.bmod_eq_of_le (by omega) (by omega)
  omega
theorem eb_nle {a b : Int32} (h : ¬ a ≤ b) : b < a := by
  rw [Int32.lt_iff_toInt_lt]; rw [Int32.le_iff_toInt_le] at h; omega
theorem eb_nlt {a b : Int32} (h : ¬ a < b) : b ≤ a := by
  rw [Int32.le_iff_toInt_le]; rw [Int32.lt_iff_toInt_lt] at h; omega
theorem eb_inU {v B : Int32} {n : Nat} (hB : B.toInt = n) (h0 : 0 ≤ v.toInt) (h : v < B) : vp_in v n := vp_in_iff.mpr ⟨h0, by rw [← hB]; exact Int32.lt_iff_toInt_lt.mp h⟩
theorem eb_inR {v A B : Int32} {n : Nat} (hB : B.toInt = n) (hA : 0 ≤ A.toInt) (h0 : A ≤ v) (h : v < B) : vp_in v n := eb_inU hB (Int.le_trans hA (Int32.le_iff_toInt_le.mp h0)) h
theorem eb_up1 {v x B : Int32} {n : Nat} (h : v < B) (e : x = v + 1) (hn : (B.toInt - v.toInt).toNat < n + 1) : (B.toInt - x.toInt).toNat < n := by
  have h1 : v.toInt < B.toInt := Int32.lt_iff_toInt_lt.mp h
  have h2 := B.toInt_le
  have h4 := v.le_toInt
  have h3 : Int32.maxValue.toInt = 2147483647 := by decide
  have h5 : Int32.minValue.toInt = -2147483648 := by decide
  have e1 : x.toInt = v.toInt + 1 := by
    rw [e, Int32.toInt_add, show (1 : Int32).toInt = 1 by decide]
    exact Int.bmod_eq_of_le (by omega) (by omega)
  omega
theorem eb_b_of {v : Int32} (h : v = 0 ∨ v = 1) : eb_b (decide (¬ v = 0)) = v := by rcases h with rfl | rfl <;> decide
theorem eb_b_narv {v : Int32} (h : v = 0 ∨ v = 1) : narrow .boolean (.int v) = .int v := by rcases h with rfl | rfl <;> rfl
theorem eb_le33 {v : Int32} (h : ¬ (32 : Int32) < v) : v < 33 := by
  rw [Int32.lt_iff_toInt_lt] at *
  have e1 : (32 : Int32).toInt = 32 := by decide
  have e2 : (33 : Int32).toInt = 33 := by decide
  omega
theorem eb_or_in {z : Int32} {n : Nat} (h : z = -1 ∨ vp_in z n) (hz : ¬ z = -1) : vp_in z n := h.resolve_left hz
theorem eb_nn {v : Int32} (h : 0 ≤ v) : 0 ≤ v.toInt := by
  have := Int32.le_iff_toInt_le.mp h
  rwa [show (0 : Int32).toInt = 0 by decide] at this
theorem eb_leN {v : Int32} {n : Nat} (hn : n < 2147483648) (h : v ≤ Int32.ofNat n) : v.toInt ≤ n := by
  have := Int32.le_iff_toInt_le.mp h
  rwa [show (Int32.ofNat n).toInt = n from nI_toInt hn] at this
theorem eb_div8 {v : Int32} (h : 0 ≤ v) : (v / 8).toInt = v.toInt / 8 := by
  have h0 := eb_nn h
  obtain ⟨j, hj, rfl⟩ := nI_of (x := v) (fun q => by have := Int32.lt_iff_toInt_lt.mp q; rw [show (0 : Int32).toInt = 0 by decide] at this; omega)
  rw [show (8 : Int32) = nI 8 by decide, pk_div hj (by omega) (by omega), nI_toInt (by omega), nI_toInt hj]
  omega
theorem eb_div8_le {a b : Int32} (h0 : 0 ≤ a) (h : a < b) : a / 8 ≤ b / 8 := by
  have h1 := Int32.lt_iff_toInt_lt.mp h
  have h2 := eb_nn h0
  have hb : 0 ≤ b := by rw [Int32.le_iff_toInt_le, show (0 : Int32).toInt = 0 by decide]; omega
  rw [Int32.le_iff_toInt_le, eb_div8 h0, eb_div8 hb]
  omega
theorem eb_div8_0 {a : Int32} (h0 : 0 ≤ a) : 0 ≤ a / 8 := by
  have h2 := eb_nn h0
  rw [Int32.le_iff_toInt_le, eb_div8 h0, show (0 : Int32).toInt = 0 by decide]
  omega
theorem eb_div8_N {a b : Int32} (h0 : 0 ≤ a) (h1 : a < b) (h : ¬ (65536 : Int32) < b) : b / 8 ≤ Int32.ofNat 8192 := by
  have h2 := eb_nn h0
  have h3 := Int32.lt_iff_toInt_lt.mp h1
  have hb : 0 ≤ b := by rw [Int32.le_iff_toInt_le, show (0 : Int32).toInt = 0 by decide]; omega
  rw [Int32.lt_iff_toInt_lt, show (65536 : Int32).toInt = 65536 by decide] at h
  rw [Int32.le_iff_toInt_le, eb_div8 hb, show (Int32.ofNat 8192).toInt = 8192 by decide]
  omega
