/-! the loops over memory -/
def fJ (σ : eb_St) (q s e : Nat) (v : Int64) : eb_St := (σ.1, fun a b => if a = q ∧ s ≤ b ∧ b < e then v else σ.2 a b)
def fI (σ : eb_St) (q s e : Nat) (v : Int32) : eb_St := (fun a b => if a = q ∧ s ≤ b ∧ b < e then v else σ.1 a b, σ.2)
theorem fJ_0 (σ : eb_St) (q s e : Nat) (v : Int64) (h : e ≤ s) : σ = fJ σ q s e v := Prod.ext rfl (funext fun a => funext fun b => (if_neg (by omega)).symm)
theorem fI_0 (σ : eb_St) (q s e : Nat) (v : Int32) (h : e ≤ s) : σ = fI σ q s e v := Prod.ext (funext fun a => funext fun b => (if_neg (by omega)).symm) rfl
theorem fJ_s (σ : eb_St) (q s e : Nat) (v : Int64) (h : s < e) : fJ (eb_pJ σ q s v) q (s + 1) e v = fJ σ q s e v := Prod.ext rfl (funext fun a => funext fun b => by
  show (if a = q ∧ s + 1 ≤ b ∧ b < e then v else if a = q ∧ b = s then v else σ.2 a b) = if a = q ∧ s ≤ b ∧ b < e then v else σ.2 a b
  by_cases h1 : a = q ∧ s + 1 ≤ b ∧ b < e
  · rw [if_pos h1, if_pos (by omega)]
  · rw [if_neg h1]
    by_cases h2 : a = q ∧ b = s
    · rw [if_pos h2, if_pos (by omega)]
    · rw [if_neg h2, if_neg (by omega)])
theorem fI_s (σ : eb_St) (q s e : Nat) (v : Int32) (h : s < e) : fI (eb_pI σ q s v) q (s + 1) e v = fI σ q s e v := Prod.ext (funext fun a => funext fun b => by
  show (if a = q ∧ s + 1 ≤ b ∧ b < e then v else if a = q ∧ b = s then v else σ.1 a b) = if a = q ∧ s ≤ b ∧ b < e then v else σ.1 a b
  by_cases h1 : a = q ∧ s + 1 ≤ b ∧ b < e
  · rw [if_pos h1, if_pos (by omega)]
  · rw [if_neg h1]
    by_cases h2 : a = q ∧ b = s
    · rw [if_pos h2, if_pos (by omega)]
    · rw [if_neg h2, if_neg (by omega)]) rfl
theorem y_fillJ {q ma e : Nat} {v : Int64} (he : e < 2 ^ 31) : ∀ (d s : Nat) (σ : eb_St), s + d = e → m_J7_fill_d0a16_6 q ma (d + 1) σ v (nI s) (nI e) = fJ σ q s e v := by
  intro d
  induction d with
  | zero => intro s σ h; rw [m_J7_fill_d0a16_6, if_pos (nI_le (by omega) (by omega))]; exact fJ_0 _ _ _ _ _ (by omega)
  | succ d ih =>
    intro s σ h
    rw [m_J7_fill_d0a16_6, if_neg (nI_ge (by omega) (by omega))]
    show m_J7_fill_d0a16_6 q ma (d + 1) (eb_pJ σ q (nI s).toNatClampNeg v) v (nI s + 1) (nI e) = _
    rw [nI_1, ih (s + 1) _ (by omega), nI_clamp (by omega), fJ_s _ _ _ _ _ (by omega)]
theorem y_fillI {q ma e : Nat} {v : Int32} (he : e < 2 ^ 31) : ∀ (d s : Nat) (σ : eb_St), s + d = e → m_J7_fill_53178_5 q ma (d + 1) σ v (nI s) (nI e) = fI σ q s e v := by
  intro d
  induction d with
  | zero => intro s σ h; rw [m_J7_fill_53178_5, if_pos (nI_le (by omega) (by omega))]; exact fI_0 _ _ _ _ _ (by omega)
  | succ d ih =>
    intro s σ h
    rw [m_J7_fill_53178_5, if_neg (nI_ge (by omega) (by omega))]
    show m_J7_fill_53178_5 q ma (d + 1) (eb_pI σ q (nI s).toNatClampNeg v) v (nI s + 1) (nI e) = _
    rw [nI_1, ih (s + 1) _ (by omega), nI_clamp (by omega), fI_s _ _ _ _ _ (by omega)]
theorem y_fillR {q ma e : Nat} {v : Int64} (he : e < 2 ^ 31) : ∀ (d s : Nat) (σ : eb_St), s + d = e → m_J7_fill_bad5a_10 q ma (d + 1) σ (nI e) v (nI s) = fJ σ q s e v := by
  intro d
  induction d with
  | zero => intro s σ h; rw [m_J7_fill_bad5a_10, if_pos (nI_le (by omega) (by omega))]; exact fJ_0 _ _ _ _ _ (by omega)
  | succ d ih =>
    intro s σ h
    rw [m_J7_fill_bad5a_10, if_neg (nI_ge (by omega) (by omega))]
    show m_J7_fill_bad5a_10 q ma (d + 1) (eb_pJ σ q (nI s).toNatClampNeg v) (nI e) v (nI s + 1) = _
    rw [nI_1, ih (s + 1) _ (by omega), nI_clamp (by omega), fJ_s _ _ _ _ _ (by omega)]
theorem y_fuel {a b : Nat} (ha : a < 2 ^ 31) (hb : b < 2 ^ 31) : ((nI b).toInt - (nI a).toInt).toNat = b - a := by
  rw [nI_toInt ha, nI_toInt hb]; omega
theorem y_fuel0 {b : Nat} (hb : b < 2 ^ 31) : ((nI b).toInt - (0 : Int32).toInt).toNat = b := by
  have := y_fuel (a := 0) (by decide) hb
  exact this
theorem y_fuelm {b : Nat} (hb : b < 2 ^ 31) : ((nI b - 1).toInt + 1).toNat = b := by
  have e : (nI b - 1).toInt = (b : Int) - 1 := by
    rw [eb_subI, nI_toInt hb, show (1 : Int32).toInt = 1 by decide]
    · rw [nI_toInt hb, show (1 : Int32).toInt = 1 by decide]; omega
    · rw [nI_toInt hb, show (1 : Int32).toInt = 1 by decide]; omega
  rw [e]; omega
theorem y_fillJ0 {q e : Nat} {v : Int64} (he : e < 2 ^ 31) (σ : eb_St) : m_J7_fill_d0a16 σ q e v = fJ σ q 0 e v := by
  show m_J7_fill_d0a16_6 q e (((nI e).toInt - (0 : Int32).toInt).toNat + 1) σ v (nI 0) (nI e) = _
  rw [y_fuel0 he, y_fillJ he e 0 σ (by omega)]
theorem y_fillI0 {q e : Nat} {v : Int32} (he : e < 2 ^ 31) (σ : eb_St) : m_J7_fill_53178 σ q e v = fI σ q 0 e v := by
  show m_J7_fill_53178_5 q e (((nI e).toInt - (0 : Int32).toInt).toNat + 1) σ v (nI 0) (nI e) = _
  rw [y_fuel0 he, y_fillI he e 0 σ (by omega)]
theorem cF_f (c : eb_St) (s e : Nat) (v : Int64) : cF c (fJ c 2 s e v) := ⟨rfl, fun q b h => if_neg (fun z => h z.1)⟩
theorem cB_f (c : eb_St) (s e p : Nat) : cB (fJ c 2 s e 0) p = if s ≤ p / 64 ∧ p / 64 < e then false else cB c p := by
  unfold cB fJ
  by_cases h : s ≤ p / 64 ∧ p / 64 < e
  · simp [h, yl_0]
  · simp [h]
theorem y_and7 {a : Nat} (h : a < 2 ^ 31) : (nI a &&& 7 = 0) ↔ a % 8 = 0 := by
  rw [pk_andN (n := a) (by omega) (m := 7) 3 (by decide)]
  show nI (a % 8) = nI 0 ↔ _
  rw [nI_eq (by omega) (by omega)]
theorem y_zero_27 {a b : Nat} (c : eb_St) (hab : a ≤ b) (hb : b ≤ 65536) (hb8 : b % 8 = 0) (ha8 : a % 8 = 0 ∨ a = b) : cF c (m_X4_zero_27 c (nI b) (nI a)) ∧ ∀ p, cB (m_X4_zero_27 c (nI b) (nI a)) p = if 8 * a ≤ p ∧ p < 8 * b then false else cB c p := by
  rw [m_X4_zero_27, if_neg (nI_pos (by omega))]
  rcases Nat.lt_or_ge a b with h | h
  · have ha8 : a % 8 = 0 := by rcases ha8 with h3 | h3 <;> omega
    rw [if_neg (nI_ge h (by omega)), if_neg (show ¬ (65536 : Int32) < nI b from nI_nlt (a := 65536) (by omega) (by omega))]
    have e : m_J7_fill_bad5a c 2 8192 (nI a / 8) (nI b / 8) 0 = fJ c 2 (a / 8) (b / 8) 0 := by
      rw [show nI a / 8 = nI (a / 8) from pk_div (d := 8) (by omega) (by omega) (by omega), show nI b / 8 = nI (b / 8) from pk_div (d := 8) (by omega) (by omega) (by omega)]
      show m_J7_fill_bad5a_10 2 8192 (((nI (b / 8)).toInt - (nI (a / 8)).toInt).toNat + 1) c (nI (b / 8)) 0 (nI (a / 8)) = _
      rw [y_fuel (by omega) (by omega), y_fillR (by omega) _ _ _ (by omega)]
    show cF c (m_J7_fill_bad5a c 2 8192 (nI a / 8) (nI b / 8) 0) ∧ ∀ p, cB (m_J7_fill_bad5a c 2 8192 (nI a / 8) (nI b / 8) 0) p = _
    rw [e]
    refine ⟨cF_f _ _ _ _, fun p => (cB_f _ _ _ _).trans ?_⟩
    by_cases h2 : 8 * a ≤ p ∧ p < 8 * b
    · rw [if_pos h2, if_pos (by omega)]
    · rw [if_neg h2, if_neg (by omega)]
  · rw [if_pos (nI_le h (by omega))]
    exact ⟨cF_0 c, fun p => (if_neg (by omega)).symm⟩
theorem y_zero_2 {b : Nat} (hb : b ≤ 65536) (hb8 : b % 8 = 0) : ∀ (d a : Nat) (c : eb_St), a + d = b → cF c (m_X4_zero_2 (d + 1) c (nI b) (nI a)) ∧ ∀ p, cB (m_X4_zero_2 (d + 1) c (nI b) (nI a)) p = if 8 * a ≤ p ∧ p < 8 * b then false else cB c p := by
  intro d
  induction d with
  | zero => intro a c h; rw [m_X4_zero_2, if_pos (nI_le (by omega) (by omega))]; exact y_zero_27 c (by omega) hb hb8 (Or.inr (by omega))
  | succ d ih =>
    intro a c h
    rw [m_X4_zero_2, if_neg (nI_ge (by omega) (by omega))]
    by_cases h8 : a % 8 = 0
    · rw [if_pos ((y_and7 (by omega)).mpr h8)]; exact y_zero_27 c (by omega) hb hb8 (Or.inl h8)
    · rw [if_neg (fun z => h8 ((y_and7 (by omega)).mp z))]
      show cF c (m_X4_zero_2 (d + 1) (m_X4_store c (nI a) (nI 1) 0) (nI b) (nI a + 1)) ∧ ∀ p, cB (m_X4_zero_2 (d + 1) (m_X4_store c (nI a) (nI 1) 0) (nI b) (nI a + 1)) p = _
      rw [nI_1]
      have g := ih (a + 1) (m_X4_store c (nI a) (nI 1) 0) (by omega)
      refine ⟨cF_t (cF_store _ _ _ _) g.1, fun p => (g.2 p).trans ?_⟩
      rw [y_store (z := 1) (by omega) (Or.inl rfl) (by omega), yl_0]
      by_cases h2 : 8 * a ≤ p ∧ p < 8 * b
      · rw [if_pos h2]
        by_cases h3 : 8 * (a + 1) ≤ p ∧ p < 8 * b
        · rw [if_pos h3]
        · rw [if_neg h3, if_pos (by omega)]
      · rw [if_neg h2, if_neg (by omega), if_neg (by omega)]
theorem y_zero {a b : Nat} (c : eb_St) (hab : a ≤ b) (hb : b ≤ 65536) (hb8 : b % 8 = 0) : cF c (m_X4_zero c (nI a) (nI b)) ∧ ∀ p, cB (m_X4_zero c (nI a) (nI b)) p = if 8 * a ≤ p ∧ p < 8 * b then false else cB c p := by
  have e : m_X4_zero c (nI a) (nI b) = m_X4_zero_2 (b - a + 1) c (nI b) (nI a) := by
    show m_X4_zero_2 (((nI b).toInt - (nI a).toInt).toNat + 1) c (nI b) (nI a) = _
    rw [y_fuel (by omega) (by omega)]
  rw [e]
  exact y_zero_2 hb hb8 (b - a) a c (by omega)
theorem y_cp1 {c : eb_St} {s t : Nat} (hs : s + 1 ≤ 65536) (ht : t + 1 ≤ 65536) (p : Nat) : cB (m_X4_store c (nI t) 1 (m_X4_load c (nI s) 1)) p = if 8 * t ≤ p ∧ p < 8 * t + 8 then cB c (8 * s + (p - 8 * t)) else cB c p := by
  have h := y_store (c := c) (a := t) (z := 1) (v := m_X4_load c (nI s) 1) ht (Or.inl rfl) (by omega) p
  rw [show (1 : Int32) = nI 1 from rfl] at *
  rw [h]
  by_cases h2 : 8 * t ≤ p ∧ p < 8 * t + 8
  · rw [if_pos (by omega), if_pos h2, y_load hs (Or.inl rfl) (by omega) (by omega), decide_eq_true (by omega)]
    simp
  · rw [if_neg (by omega), if_neg h2]
theorem y_copy_8 {s t n : Nat} {g : Nat → Bool} (hst : t < s) (hs : s + n ≤ 65536) : ∀ (d i : Nat) (c : eb_St), i + d = n → (∀ p, cB c p = if 8 * t ≤ p ∧ p < 8 * (t + i) then g (8 * s + (p - 8 * t)) else g p) → cF c (m_X4_copy_8 (d + 1) c (nI s) (nI t) (nI n) (nI i)) ∧ ∀ p, cB (m_X4_copy_8 (d + 1) c (nI s) (nI t) (nI n) (nI i)) p = if 8 * t ≤ p ∧ p < 8 * (t + n) then g (8 * s + (p - 8 * t)) else g p := by
  intro d
  induction d with
  | zero =>
    intro i c h hg
    rw [m_X4_copy_8, if_pos (nI_le (by omega) (by omega))]
    rw [show i = n by omega] at hg
    exact ⟨cF_0 c, hg⟩
  | succ d ih =>
    intro i c h hg
    rw [m_X4_copy_8, if_neg (nI_ge (by omega) (by omega))]
    show cF c (m_X4_copy_8 (d + 1) (m_X4_store c (nI t + nI i) 1 (m_X4_load c (nI s + nI i) 1)) (nI s) (nI t) (nI n) (nI i + 1)) ∧ ∀ p, cB (m_X4_copy_8 (d + 1) (m_X4_store c (nI t + nI i) 1 (m_X4_load c (nI s + nI i) 1)) (nI s) (nI t) (nI n) (nI i + 1)) p = _
    rw [nI_1, nI_add, nI_add]
    have k := ih (i + 1) (m_X4_store c (nI (t + i)) 1 (m_X4_load c (nI (s + i)) 1)) (by omega) (fun p => by
      rw [y_cp1 (by omega) (by omega)]
      by_cases h1 : 8 * (t + i) ≤ p ∧ p < 8 * (t + i) + 8
      · rw [if_pos h1, if_pos (by omega), hg, if_neg (by omega)]
        congr 1; omega
      · rw [if_neg h1, hg]
        by_cases h2 : 8 * t ≤ p ∧ p < 8 * (t + i)
        · rw [if_pos h2, if_pos (by omega)]
        · rw [if_neg h2, if_neg (by omega)])
    exact ⟨cF_t (cF_store _ _ _ _) k.1, k.2⟩
theorem y_copy_46 {s t n : Nat} {g : Nat → Bool} (hst : s ≤ t) (ht : t + n ≤ 65536) : ∀ (i : Nat) (c : eb_St), i ≤ n → (∀ p, cB c p = if 8 * (t + i) ≤ p ∧ p < 8 * (t + n) then g (8 * s + (p - 8 * t)) else g p) → cF c (m_X4_copy_46 (i + 1) c (nI s) (nI t) (nI i - 1)) ∧ ∀ p, cB (m_X4_copy_46 (i + 1) c (nI s) (nI t) (nI i - 1)) p = if 8 * t ≤ p ∧ p < 8 * (t + n) then g (8 * s + (p - 8 * t)) else g p := by
  intro i
  induction i with
  | zero =>
    intro c h hg
    rw [m_X4_copy_46, if_pos (by decide)]
    exact ⟨cF_0 c, hg⟩
  | succ i ih =>
    intro c h hg
    rw [m_X4_copy_46, nI_pred, if_neg (nI_pos (by omega))]
    show cF c (m_X4_copy_46 (i + 1) (m_X4_store c (nI t + nI i) 1 (m_X4_load c (nI s + nI i) 1)) (nI s) (nI t) (nI i + (-1))) ∧ ∀ p, cB (m_X4_copy_46 (i + 1) (m_X4_store c (nI t + nI i) 1 (m_X4_load c (nI s + nI i) 1)) (nI s) (nI t) (nI i + (-1))) p = _
    rw [show nI i + (-1) = nI i - 1 from (Int32.sub_eq_add_neg _ _).symm, nI_add, nI_add]
    have k := ih (m_X4_store c (nI (t + i)) 1 (m_X4_load c (nI (s + i)) 1)) (by omega) (fun p => by
      rw [y_cp1 (by omega) (by omega)]
      by_cases h1 : 8 * (t + i) ≤ p ∧ p < 8 * (t + i) + 8
      · rw [if_pos h1, if_pos (by omega), hg, if_neg (by omega)]
        congr 1; omega
      · rw [if_neg h1, hg]
        by_cases h2 : 8 * (t + (i + 1)) ≤ p ∧ p < 8 * (t + n)
        · rw [if_pos h2, if_pos (by omega)]
        · rw [if_neg h2, if_neg (by omega)])
    exact ⟨cF_t (cF_store _ _ _ _) k.1, k.2⟩
theorem y_copy {s t n : Nat} (c : eb_St) (hs : s + n ≤ 65536) (ht : t + n ≤ 65536) : cF c (m_X4_copy c (nI s) (nI t) (nI n)) ∧ ∀ p, cB (m_X4_copy c (nI s) (nI t) (nI n)) p = if 8 * t ≤ p ∧ p < 8 * (t + n) then cB c (8 * s + (p - 8 * t)) else cB c p := by
  unfold m_X4_copy
  rcases Nat.lt_or_ge t s with h | h
  · rw [if_neg (nI_ge h (by omega)), y_fuel0 (by omega)]
    exact y_copy_8 (g := cB c) h hs n 0 c (by omega) (fun p => (if_neg (by omega)).symm)
  · rw [if_pos (nI_le h (by omega))]
    show cF c (m_X4_copy_46 (((nI n - 1).toInt + 1).toNat + 1) c (nI s) (nI t) (nI n - 1)) ∧ ∀ p, cB (m_X4_copy_46 (((nI n - 1).toInt + 1).toNat + 1) c (nI s) (nI t) (nI n - 1)) p = _
    rw [y_fuelm (by omega)]
    exact y_copy_46 (g := cB c) h ht n c (by omega) (fun p => (if_neg (by omega)).symm)
theorem y_clear_2 {e b n : Nat} (he : e < 6) (hn : b + n ≤ 65536) : ∀ (d k : Nat) (r : eb_St), k + d = n → r.1 7 e = nI b → r.1 8 e = nI n → rF r (m_X10_clearMemory_2 (d + 1) r (nI e) (nI k)) ∧ ∀ p, rB (m_X10_clearMemory_2 (d + 1) r (nI e) (nI k)) p = if 8 * (b + k) ≤ p ∧ p < 8 * (b + n) then false else rB r p := by
  intro d
  induction d with
  | zero =>
    intro k r h h7 h8
    rw [m_X10_clearMemory_2, nI_clamp (by omega), h8, if_pos (nI_le (by omega) (by omega))]
    exact ⟨rF_0 r, fun p => (if_neg (by omega)).symm⟩
  | succ d ih =>
    intro k r h h7 h8
    rw [m_X10_clearMemory_2, nI_clamp (by omega), h8, h7, if_neg (nI_ge (by omega) (by omega))]
    show rF r (m_X10_clearMemory_2 (d + 1) (eb_pI r 1 (nI b + nI k).toNatClampNeg (vp_nar .byte 0)) (nI e) (nI k + 1)) ∧ ∀ p, rB (m_X10_clearMemory_2 (d + 1) (eb_pI r 1 (nI b + nI k).toNatClampNeg (vp_nar .byte 0)) (nI e) (nI k + 1)) p = _
    rw [nI_1, nI_add, nI_clamp (by omega)]
    have g := ih (k + 1) (eb_pI r 1 (b + k) (vp_nar .byte 0)) (by omega) h7 h8
    refine ⟨rF_t (rF_p _ _ _) g.1, fun p => (g.2 p).trans ?_⟩
    rw [rB_p]
    by_cases hp : p / 8 = b + k
    · rw [if_neg (by omega), if_pos hp, if_pos (by omega), yb_nb _ (Nat.mod_lt _ (by decide)), yb_0]
    · rw [if_neg hp]
      by_cases h3 : 8 * (b + k) ≤ p ∧ p < 8 * (b + n)
      · rw [if_pos h3, if_pos (by omega)]
      · rw [if_neg h3, if_neg (by omega)]
theorem y_clear {e b n : Nat} {r : eb_St} (he : e < 6) (hn : b + n ≤ 65536) (h7 : r.1 7 e = nI b) (h8 : r.1 8 e = nI n) : rF r (m_X10_clearMemory r (nI e)) ∧ ∀ p, rB (m_X10_clearMemory r (nI e)) p = if 8 * b ≤ p ∧ p < 8 * (b + n) then false else rB r p := by
  unfold m_X10_clearMemory
  rw [nI_clamp (by omega), h8, y_fuel0 (by omega)]
  exact y_clear_2 he hn n 0 r (by omega) h7 h8
def yk1 (r : eb_St) (im k : Nat) : eb_St := (fun q b => if q = 17 ∧ b < k then vp_nar .byte (r.1 1 (im + b)) else r.1 q b, r.2)
def yk2 (r : eb_St) (at_ m k : Nat) : eb_St := (fun q b => if q = 1 ∧ at_ ≤ b ∧ b < at_ + k then (if b - at_ < m then vp_nar .byte (r.1 17 (b - at_)) else vp_nar .byte 0) else r.1 q b, r.2)
theorem y_mk_3 {r : eb_St} {e : Int32} {at_ n im m : Nat} (him : im + m ≤ 65536) (hn : n < 2 ^ 31) : ∀ (d k : Nat), k + d = m → m_X10_makes_3 (d + 1) (yk1 r im k) e (nI at_) (nI n) (nI im) (nI m) (nI k) = m_X10_makes_36 (n + 1) (yk1 r im m) e (nI at_) (nI n) (nI m) 0 := by
  intro d
  induction d with
  | zero =>
    intro k h
    rw [m_X10_makes_3, if_pos (nI_le (by omega) (by omega)), y_fuel0 hn, show k = m by omega]
  | succ d ih =>
    intro k h
    rw [m_X10_makes_3, if_neg (nI_ge (by omega) (by omega))]
    show m_X10_makes_3 (d + 1) (eb_pI (yk1 r im k) 17 (nI k).toNatClampNeg (vp_nar .byte ((yk1 r im k).1 1 (nI im + nI k).toNatClampNeg))) e (nI at_) (nI n) (nI im) (nI m) (nI k + 1) = _
    rw [nI_1, nI_add, nI_clamp (by omega), nI_clamp (by omega)]
    have e1 : eb_pI (yk1 r im k) 17 k (vp_nar .byte ((yk1 r im k).1 1 (im + k))) = yk1 r im (k + 1) := Prod.ext (funext fun a => funext fun b => by
      show (if a = 17 ∧ b = k then vp_nar .byte ((yk1 r im k).1 1 (im + k)) else if a = 17 ∧ b < k then vp_nar .byte (r.1 1 (im + b)) else r.1 a b) = if a = 17 ∧ b < k + 1 then vp_nar .byte (r.1 1 (im + b)) else r.1 a b
      by_cases h1 : a = 17 ∧ b = k
      · rw [if_pos h1, if_pos (by omega), h1.2]; rfl
      · rw [if_neg h1]
        by_cases h2 : a = 17 ∧ b < k
        · rw [if_pos h2, if_pos (by omega)]
        · rw [if_neg h2, if_neg (by omega)]) rfl
    rw [e1]
    exact ih (k + 1) (by omega)
theorem y_mk_36 {r : eb_St} {e : Int32} {at_ n m : Nat} (hat : at_ + n ≤ 65536) (hm : m ≤ n) : ∀ (d k : Nat), k + d = n → m_X10_makes_36 (d + 1) (yk2 r at_ m k) e (nI at_) (nI n) (nI m) (nI k) = m_X10_makes_113 33 (eb_pI (eb_pI (eb_pI (eb_pI (eb_pI (yk2 r at_ m n) 7 e.toNatClampNeg (nI at_)) 8 e.toNatClampNeg (nI n)) 6 e.toNatClampNeg 1) 12 e.toNatClampNeg 0) 13 e.toNatClampNeg 0) e 0 := by
  intro d
  induction d with
  | zero =>
    intro k h
    rw [m_X10_makes_36, if_pos (nI_le (by omega) (by omega)), show k = n by omega]
  | succ d ih =>
    intro k h
    rw [m_X10_makes_36, if_neg (nI_ge (by omega) (by omega))]
    have e1 : ∀ w : Int32, w = (if k < m then vp_nar .byte (r.1 17 k) else vp_nar .byte 0) → eb_pI (yk2 r at_ m k) 1 (at_ + k) w = yk2 r at_ m (k + 1) := fun w hw => Prod.ext (funext fun a => funext fun b => by
      show (if a = 1 ∧ b = at_ + k then w else if a = 1 ∧ at_ ≤ b ∧ b < at_ + k then (if b - at_ < m then vp_nar .byte (r.1 17 (b - at_)) else vp_nar .byte 0) else r.1 a b) = if a = 1 ∧ at_ ≤ b ∧ b < at_ + (k + 1) then (if b - at_ < m then vp_nar .byte (r.1 17 (b - at_)) else vp_nar .byte 0) else r.1 a b
      by_cases h1 : a = 1 ∧ b = at_ + k
      · rw [if_pos h1, if_pos (by omega), hw, show b - at_ = k by omega]
      · rw [if_neg h1]
        by_cases h2 : a = 1 ∧ at_ ≤ b ∧ b < at_ + k
        · rw [if_pos h2, if_pos (show a = 1 ∧ at_ ≤ b ∧ b < at_ + (k + 1) by omega)]
        · rw [if_neg h2, if_neg (by omega)]) rfl
    by_cases hkm : k < m
    · rw [if_neg (nI_ge hkm (by omega))]
      show m_X10_makes_36 (d + 1) (eb_pI (yk2 r at_ m k) 1 (nI at_ + nI k).toNatClampNeg (vp_nar .byte ((yk2 r at_ m k).1 17 (nI k).toNatClampNeg))) e (nI at_) (nI n) (nI m) (nI k + 1) = _
      rw [nI_1, nI_add, nI_clamp (by omega), nI_clamp (by omega), e1 _ (by rw [if_pos hkm]; rfl)]
      exact ih (k + 1) (by omega)
    · rw [if_pos (nI_le (by omega) (by omega))]
      show m_X10_makes_36 (d + 1) (eb_pI (yk2 r at_ m k) 1 (nI at_ + nI k).toNatClampNeg (vp_nar .byte 0)) e (nI at_) (nI n) (nI m) (nI k + 1) = _
      rw [nI_1, nI_add, nI_clamp (by omega), e1 _ (by rw [if_neg hkm])]
      exact ih (k + 1) (by omega)
theorem y_mk_113 {e : Nat} (he : e < 6) : ∀ (d k : Nat) (r : eb_St), k + d = 32 → m_X10_makes_113 (d + 1) r (nI e) (nI k) = eb_pI (eb_pI (fJ r 2 (32 * e + k) (32 * e + 32) 0) 0 10 (r.1 0 10 + 1)) 0 35 0 := by
  intro d
  induction d with
  | zero =>
    intro k r h
    rw [m_X10_makes_113, if_pos (show (32 : Int32) ≤ nI k from nI_le (a := 32) (by omega) (by omega)), ← fJ_0 r 2 (32 * e + k) (32 * e + 32) 0 (by omega)]
  | succ d ih =>
    intro k r h
    rw [m_X10_makes_113, if_neg (show ¬ (32 : Int32) ≤ nI k from nI_ge (b := 32) (by omega) (by omega))]
    show m_X10_makes_113 (d + 1) (eb_pJ r 2 (32 * nI e + nI k).toNatClampNeg 0) (nI e) (nI k + 1) = _
    rw [nI_1, show (32 : Int32) * nI e = nI (32 * e) from pk_mul 32 e, nI_add, nI_clamp (by omega), ih (k + 1) _ (by omega)]
    rw [show 32 * e + (k + 1) = (32 * e + k) + 1 by omega, fJ_s _ _ _ _ _ (by omega)]
    rfl
/-- what makes leaves -/
def ymk (r : eb_St) (e at_ n im m : Nat) : eb_St := eb_pI (eb_pI (fJ (eb_pI (eb_pI (eb_pI (eb_pI (eb_pI (yk2 (yk1 r im m) at_ m n) 7 e (nI at_)) 8 e (nI n)) 6 e 1) 12 e 0) 13 e 0) 2 (32 * e) (32 * e + 32) 0) 0 10 (r.1 0 10 + 1)) 0 35 0
theorem y_makes {r : eb_St} {e at_ n im m : Nat} (he : e < 6) (hat : at_ + n ≤ 65536) (hm : m ≤ n) (him : im + m ≤ 65536) : m_X10_makes r (nI e) (nI at_) (nI n) (nI im) (nI m) = ymk r e at_ n im m := by
  unfold m_X10_makes
  rw [y_fuel0 (by omega)]
  have e1 := y_mk_3 (r := r) (e := nI e) (at_ := at_) (n := n) him (by omega) m 0 (by omega)
  have z1 : yk1 r im 0 = r := Prod.ext (funext fun a => funext fun b => if_neg (by omega)) rfl
  rw [z1] at e1
  have e2 := y_mk_36 (r := yk1 r im m) (e := nI e) hat hm n 0 (by omega)
  have z2 : yk2 (yk1 r im m) at_ m 0 = yk1 r im m := Prod.ext (funext fun a => funext fun b => if_neg (by omega)) rfl
  rw [z2] at e2
  have e3 := y_mk_113 he 32 0 (eb_pI (eb_pI (eb_pI (eb_pI (eb_pI (yk2 (yk1 r im m) at_ m n) 7 (nI e).toNatClampNeg (nI at_)) 8 (nI e).toNatClampNeg (nI n)) 6 (nI e).toNatClampNeg 1) 12 (nI e).toNatClampNeg 0) 13 (nI e).toNatClampNeg 0) (by omega)
  refine e1.trans (e2.trans (e3.trans ?_))
  rw [nI_clamp (by omega)]
  rfl
theorem y_mk_B {r : eb_St} {e at_ n im m : Nat} (hm : m ≤ n) (p : Nat) : rB (ymk r e at_ n im m) p = if 8 * at_ ≤ p ∧ p < 8 * (at_ + n) then (if p < 8 * (at_ + m) then rB r (8 * im + (p - 8 * at_)) else false) else rB r p := by
  have e0 : (ymk r e at_ n im m).1 1 (p / 8) = if at_ ≤ p / 8 ∧ p / 8 < at_ + n then (if p / 8 - at_ < m then vp_nar .byte (vp_nar .byte (r.1 1 (im + (p / 8 - at_)))) else vp_nar .byte 0) else r.1 1 (p / 8) := by
    by_cases h : p / 8 - at_ < m
    · simp [ymk, eb_pI, fJ, yk2, yk1, h]
    · simp [ymk, eb_pI, fJ, yk2, yk1, h]
  have hm8 : p % 8 < 8 := Nat.mod_lt _ (by decide)
  unfold rB
  rw [e0]
  by_cases h1 : 8 * at_ ≤ p ∧ p < 8 * (at_ + n)
  · rw [if_pos h1, if_pos (by omega)]
    by_cases h2 : p < 8 * (at_ + m)
    · rw [if_pos h2, if_pos (by omega), yb_nb _ hm8, yb_nb _ hm8, show (8 * im + (p - 8 * at_)) / 8 = im + (p / 8 - at_) by omega, show (8 * im + (p - 8 * at_)) % 8 = p % 8 by omega]
    · rw [if_neg h2, if_neg (by omega), yb_nb _ hm8, yb_0]
  · rw [if_neg h1, if_neg (by omega)]
