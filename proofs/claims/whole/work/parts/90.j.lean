theorem O_immW {n t : Nat} {u : Int32} {s : Nat} {w : Int32} {c r : eb_St} (h : yD n t u s w c r) : yO n t u s (r.1 0 8) (m_X3_withImmediateWord c s w) (m_X10_immediateW r) := by
  have hx := D_x1 h
  have h41 := h.2.2.2.2.2.2.1
  have h40 := h.2.2.2.2.2.2.2.2.1
  have h42 := h.2.2.2.2.2.2.2.2.2.1
  have h37 := h.2.2.2.2.1
  have hk : m_X3_kind w = r.1 0 41 := by rw [h41]; exact y_f3 w
  unfold m_X3_withImmediateWord m_X10_immediateW m_X10_immediateW_59 m_X10_immediateW_86
  rw [hx, hk, h37, h42, h40]
  unfold m_X3_withImmediateWord_27 m_X3_withImmediateWord_28 m_X3_withImmediateWord_40 m_X3_withImmediateWord_54 m_X3_withImmediateWord_50 m_X3_withImmediateWord_55 m_X3_withImmediateWord_72 m_X0_basicWord
  dsimp only
  have h8 := y_8 (w >>> (12 &&& 31))
  rw [← h41] at h8
  generalize eb_iushr w 25 = x
  rcases h8 with q | q | q | q | q | q | q | q
  · simp (decide := true) only [q, if_true, if_false]
    exact O_fin h rfl
  · simp (decide := true) only [q, if_true, if_false]
    by_cases z : x = 0
    · simp (decide := true) only [if_pos z, if_true, if_false]; exact O_fin h rfl
    · simp (decide := true) only [if_neg z, if_true, if_false]; exact O_ill h
  · simp (decide := true) only [q, if_true, if_false]
    exact O_ill h
  · simp (decide := true) only [q, if_true, if_false]
    exact O_ill h
  · simp (decide := true) only [q, if_true, if_false]
    exact O_ill h
  · simp (decide := true) only [q, if_true, if_false]
    by_cases z : x = 0
    · simp (decide := true) only [if_pos z, if_neg (show ¬ x = 32 by rw [z]; decide), if_true, if_false]; exact O_fin h rfl
    · by_cases z2 : x = 32
      · simp (decide := true) only [if_neg z, if_pos z2, if_true, if_false]; exact O_fin h rfl
      · simp (decide := true) only [if_neg z, if_neg z2, if_true, if_false]; exact O_ill h
  · simp (decide := true) only [q, if_true, if_false]
    exact O_ill h
  · simp (decide := true) only [q, if_true, if_false]
    exact O_ill h
theorem O_reg {n t : Nat} {u : Int32} {s : Nat} {w : Int32} {c r : eb_St} (h : yD n t u s w c r) : yO n t u s (r.1 0 8) (m_X3_withRegister c s w) (m_X10_registers r) := by
  have hx := D_x1 h
  have hx2 := D_x2 h
  have h41 := h.2.2.2.2.2.2.1
  have h42 := h.2.2.2.2.2.2.2.2.2.1
  have hk : m_X3_kind w = r.1 0 41 := by rw [h41]; exact y_f3 w
  unfold m_X3_withRegister m_X10_registers
  rw [hx, hx2, hk, h42]
  unfold m_X10_product m_X10_product_68 m_X3_withRegister_77 m_X3_withRegister_81 m_X3_withRegister_82 m_X3_withRegister_100 m_X0_basic m_X0_divided m_X0_multiplied
  dsimp only
  simp only [y_cu, y_and63, y_mul, y_sg]
  have h8 := y_8 (w >>> (12 &&& 31))
  rw [← h41] at h8
  generalize eb_iushr w 25 = x
  generalize m_X3_first c s w = a
  generalize m_X3_second c s w = b
  have hd : ∀ k : Int32, yO n t u s (r.1 0 8) (m_X3_finish c s w (if b = 0 then (-1) else a / b)) (m_X10_sets r (if b = 0 then (-1) else (if b = (-1) then -a else a / b))) := fun _ => O_fin h (by
    by_cases z : b = 0
    · rw [if_pos z, if_pos z]
    · rw [if_neg z, if_neg z]
      by_cases z2 : b = -1
      · rw [if_pos z2, z2, y_divm1]
      · rw [if_neg z2])
  by_cases x1 : x = 1
  · simp (decide := true) only [if_pos x1]
    rcases h8 with q | q | q | q | q | q | q | q
    · simp (decide := true) only [q, if_true, if_false]
      exact O_fin h rfl
    · simp (decide := true) only [q, if_true, if_false]
      refine O_fin h ?_
      by_cases a0 : a < 0
      · have a1 : ¬ (0 : Int64) ≤ a := by rw [Int64.lt_iff_toInt_lt] at a0; rw [Int64.le_iff_toInt_le]; omega
        by_cases b0 : b < 0
        · have b1 : ¬ (0 : Int64) ≤ b := by rw [Int64.lt_iff_toInt_lt] at b0; rw [Int64.le_iff_toInt_le]; omega
          simp only [if_pos a0, if_pos b0, if_neg a1, if_neg b1]
        · have b1 : (0 : Int64) ≤ b := by rw [Int64.lt_iff_toInt_lt] at b0; rw [Int64.le_iff_toInt_le]; omega
          simp only [if_pos a0, if_neg b0, if_neg a1, if_pos b1]
      · have a1 : (0 : Int64) ≤ a := by rw [Int64.lt_iff_toInt_lt] at a0; rw [Int64.le_iff_toInt_le]; omega
        by_cases b0 : b < 0
        · have b1 : ¬ (0 : Int64) ≤ b := by rw [Int64.lt_iff_toInt_lt] at b0; rw [Int64.le_iff_toInt_le]; omega
          simp only [if_neg a0, if_pos b0, if_pos a1, if_neg b1]
        · have b1 : (0 : Int64) ≤ b := by rw [Int64.lt_iff_toInt_lt] at b0; rw [Int64.le_iff_toInt_le]; omega
          simp only [if_neg a0, if_neg b0, if_pos a1, if_pos b1]
    · simp (decide := true) only [q, if_true, if_false]
      refine O_fin h ?_
      rw [Int64.sub_add_cancel]
      by_cases a0 : a < 0
      · have a1 : ¬ (0 : Int64) ≤ a := by rw [Int64.lt_iff_toInt_lt] at a0; rw [Int64.le_iff_toInt_le]; omega
        rw [if_pos a0, if_neg a1]
      · have a1 : (0 : Int64) ≤ a := by rw [Int64.lt_iff_toInt_lt] at a0; rw [Int64.le_iff_toInt_le]; omega
        rw [if_neg a0, if_pos a1]
    · simp (decide := true) only [q, if_true, if_false]
      refine O_fin h ?_
      rw [Int64.sub_add_cancel, Int64.sub_add_cancel]
    · simp (decide := true) only [q, if_true, if_false]
      exact hd 0
    · simp (decide := true) only [q, if_true, if_false]
      refine O_fin h ?_
      by_cases z : b = 0
      · rw [if_pos z]; unfold m_X0_quotientWithoutSign; rw [if_pos z]
      · rw [if_neg z, y_quo a b z]
    · simp (decide := true) only [q, if_true, if_false]
      refine O_fin h ?_
      by_cases z : b = 0
      · rw [if_pos z, if_pos z]
      · rw [if_neg z, if_neg z]
        by_cases z2 : b = -1
        · rw [if_pos z2, z2, y_remm1]
        · rw [if_neg z2]
    · simp (decide := true) only [q, if_true, if_false]
      refine O_fin h ?_
      by_cases z : b = 0
      · rw [if_pos z, if_pos z]
      · rw [if_neg z, if_neg z, y_quo a b z]
  · simp (decide := true) only [if_neg x1]
    by_cases x32 : x = 32
    · have x0 : ¬ x = 0 := by rw [x32]; decide
      simp (decide := true) only [if_pos x32, if_neg x0, if_false]
      rcases h8 with q | q | q | q | q | q | q | q
      · simp (decide := true) only [q, if_true, if_false]; exact O_fin h rfl
      · simp (decide := true) only [q, if_true, if_false]; exact O_ill h
      · simp (decide := true) only [q, if_true, if_false]; exact O_ill h
      · simp (decide := true) only [q, if_true, if_false]; exact O_ill h
      · simp (decide := true) only [q, if_true, if_false]; exact O_ill h
      · simp (decide := true) only [q, if_true, if_false]; exact O_fin h rfl
      · simp (decide := true) only [q, if_true, if_false]; exact O_ill h
      · simp (decide := true) only [q, if_true, if_false]; exact O_ill h
    · simp (decide := true) only [if_neg x32]
      by_cases x0 : x = 0
      · simp (decide := true) only [if_pos x0, if_true]
        rcases h8 with q | q | q | q | q | q | q | q
        · simp (decide := true) only [q, if_true, if_false]; exact O_fin h rfl
        · simp (decide := true) only [q, if_true, if_false]; exact O_fin h rfl
        · simp (decide := true) only [q, if_true, if_false]
          by_cases z : b ≤ a
          · rw [if_pos z, if_pos z]; exact O_fin h rfl
          · rw [if_neg z, if_neg z]; exact O_fin h rfl
        · simp (decide := true) only [q, if_true, if_false]
          cases m_X10_isBelow a b
          · exact O_fin h rfl
          · exact O_fin h rfl
        · simp (decide := true) only [q, if_true, if_false]; exact O_fin h rfl
        · simp (decide := true) only [q, if_true, if_false]; exact O_fin h rfl
        · simp (decide := true) only [q, if_true, if_false]; exact O_fin h rfl
        · simp (decide := true) only [q, if_true, if_false]; exact O_fin h rfl
      · simp (decide := true) only [if_neg x0, if_true]
        exact O_ill h
theorem O_regW {n t : Nat} {u : Int32} {s : Nat} {w : Int32} {c r : eb_St} (h : yD n t u s w c r) : yO n t u s (r.1 0 8) (m_X3_withRegisterWord c s w) (m_X10_registersW r) := by
  have hx := D_x1 h
  have hx2 := D_x2 h
  have h41 := h.2.2.2.2.2.2.1
  have h42 := h.2.2.2.2.2.2.2.2.2.1
  have hk : m_X3_kind w = r.1 0 41 := by rw [h41]; exact y_f3 w
  unfold m_X3_withRegisterWord m_X10_registersW
  rw [hx, hx2, hk, h42]
  unfold m_X3_withRegisterWord_42 m_X3_withRegisterWord_56 m_X3_withRegisterWord_72 m_X3_withRegisterWord_76 m_X3_withRegisterWord_77 m_X3_withRegisterWord_98 m_X3_withRegisterWord_102 m_X3_withRegisterWord_103 m_X3_withRegisterWord_121 m_X0_basicWord m_X0_multipliedWord m_X0_multipliedWord_104
  dsimp only
  have h8 := y_8 (w >>> (12 &&& 31))
  rw [← h41] at h8
  generalize eb_iushr w 25 = x
  generalize (m_X3_first c s w).toInt32 = a
  generalize (m_X3_second c s w).toInt32 = b
  by_cases x1 : x = 1
  · have x0 : ¬ x = 0 := by rw [x1]; decide
    have x32 : ¬ x = 32 := by rw [x1]; decide
    simp (decide := true) only [if_pos x1, if_neg x0, if_neg x32, if_true, if_false]
    rcases h8 with q | q | q | q | q | q | q | q
    · simp (decide := true) only [q, if_true, if_false]; exact O_fin h rfl
    · simp (decide := true) only [q, if_true, if_false]; exact O_ill h
    · simp (decide := true) only [q, if_true, if_false]; exact O_ill h
    · simp (decide := true) only [q, if_true, if_false]; exact O_ill h
    · simp (decide := true) only [q, if_true, if_false]
      by_cases z : b = 0
      · simp only [if_pos z]; exact O_fin h rfl
      · by_cases z2 : b = -1
        · simp only [if_neg z, if_pos z2]; exact O_fin h (by rw [z2, y_divm1I])
        · simp only [if_neg z, if_neg z2]; exact O_fin h rfl
    · simp (decide := true) only [q, if_true, if_false]
      by_cases z : b = 0
      · simp only [if_pos z]; exact O_fin h rfl
      · simp only [if_neg z]; exact O_fin h rfl
    · simp (decide := true) only [q, if_true, if_false]
      by_cases z : b = 0
      · simp only [if_pos z]; exact O_fin h rfl
      · by_cases z2 : b = -1
        · simp only [if_neg z, if_pos z2]; exact O_fin h (by rw [z2, y_remm1I]; rfl)
        · simp only [if_neg z, if_neg z2]; exact O_fin h rfl
    · simp (decide := true) only [q, if_true, if_false]
      by_cases z : b = 0
      · simp only [if_pos z]; exact O_fin h rfl
      · simp only [if_neg z]; exact O_fin h rfl
  · simp (decide := true) only [if_neg x1]
    by_cases x32 : x = 32
    · have x0 : ¬ x = 0 := by rw [x32]; decide
      simp (decide := true) only [if_pos x32, if_neg x0, if_true, if_false]
      rcases h8 with q | q | q | q | q | q | q | q
      · simp (decide := true) only [q, if_true, if_false]; exact O_fin h rfl
      · simp (decide := true) only [q, if_true, if_false]; exact O_ill h
      · simp (decide := true) only [q, if_true, if_false]; exact O_ill h
      · simp (decide := true) only [q, if_true, if_false]; exact O_ill h
      · simp (decide := true) only [q, if_true, if_false]; exact O_ill h
      · simp (decide := true) only [q, if_true, if_false]; exact O_fin h rfl
      · simp (decide := true) only [q, if_true, if_false]; exact O_ill h
      · simp (decide := true) only [q, if_true, if_false]; exact O_ill h
    · simp (decide := true) only [if_neg x32]
      by_cases x0 : x = 0
      · simp (decide := true) only [if_pos x0, if_true, if_false]
        rcases h8 with q | q | q | q | q | q | q | q
        · simp (decide := true) only [q, if_true, if_false]; exact O_fin h rfl
        · simp (decide := true) only [q, if_true, if_false]; exact O_fin h rfl
        · simp (decide := true) only [q, if_true, if_false]; exact O_ill h
        · simp (decide := true) only [q, if_true, if_false]; exact O_ill h
        · simp (decide := true) only [q, if_true, if_false]; exact O_ill h
        · simp (decide := true) only [q, if_true, if_false]; exact O_fin h rfl
        · simp (decide := true) only [q, if_true, if_false]; exact O_ill h
        · simp (decide := true) only [q, if_true, if_false]; exact O_ill h
      · simp (decide := true) only [if_neg x0, if_true, if_false]
        exact O_ill h
theorem O_br {n t : Nat} {u : Int32} {s : Nat} {w : Int32} {c r : eb_St} (h : yD n t u s w c r) {p : Int64} (hp : p = c.2 (19 + s) 1) : yO n t u s (r.1 0 8) (m_X3_branch c s w) (m_X10_branches r p) := by
  have hx := D_x1 h
  have hx2 := D_x2 h
  have h41 := h.2.2.2.2.2.2.1
  have h37 := h.2.2.2.2.1
  have hk : m_X3_kind w = r.1 0 41 := by rw [h41]; exact y_f3 w
  have no : yO n t u s (r.1 0 8) ((-1), c) (m_X10_branches_171 r p 0) := by
    unfold m_X10_branches_171
    rw [if_pos rfl]
    exact O_go h.1 h.2.1 h.2.2.1 h.2.2.2.1 (by rw [h.2.2.2.2.2.2.2.2.2.2, Q_pc0 h.1 h.2.1 h.2.2.2.1])
  have yes : yO n t u s (r.1 0 8) (if ((c.2 (19 + s) 1 + (m_X3_branchOffset w).toInt64) &&& 3) = 0 then ((-1), eb_pJ c 9 5 (c.2 (19 + s) 1 + (m_X3_branchOffset w).toInt64)) else m_X3_fault c 0 (c.2 (19 + s) 1 + (m_X3_branchOffset w).toInt64)) (m_X10_branches_171 r p 1) := by
    unfold m_X10_branches_171
    rw [if_neg (show ¬ (1 : Int32) = 0 by decide), h37, hp, y_bo]
    dsimp only
    generalize c.2 (19 + s) 1 + _ = x
    by_cases q : x &&& 3 = 0
    · rw [if_pos q, if_pos q, h.2.2.1, nI_clamp (by have := h.2.1; omega)]
      exact ⟨rfl, Or.inl ⟨rfl, rfl, O_pc (Q_c9 h.1 5 x) h.2.1 (by simp [eb_pJ])⟩⟩
    · rw [if_neg q, if_neg q]
      exact O_flt (f := 0) h.1 (by decide) (by decide) rfl
  unfold m_X3_branch m_X10_branches
  rw [hx, hx2, hk]
  unfold m_X0_holds m_X0_holds_106 m_X10_branches_80 m_X10_branches_97 m_X10_branches_114 m_X10_branches_131 m_X10_branches_161
  dsimp only
  simp only [y_cu, y_cu2]
  have h8 := y_8 (w >>> (12 &&& 31))
  rw [← h41] at h8
  generalize m_X3_first c s w = a
  generalize m_X3_second c s w = b
  rcases h8 with q | q | q | q | q | q | q | q
  · simp (decide := true) only [q, if_true, if_false]
    by_cases z : a = b
    · simp (decide := true) only [if_pos z, if_false]; exact yes
    · simp (decide := true) only [if_neg z, if_true]; exact no
  · simp (decide := true) only [q, if_true, if_false]
    by_cases z : a = b
    · simp (decide := true) only [if_pos z, if_true]; exact no
    · simp (decide := true) only [if_neg z, if_false]; exact yes
  · simp (decide := true) only [q, if_true, if_false]; exact O_ill h
  · simp (decide := true) only [q, if_true, if_false]; exact O_ill h
  · simp (decide := true) only [q, if_true, if_false]
    by_cases z : b ≤ a
    · simp (decide := true) only [if_pos z, if_true]; exact no
    · simp (decide := true) only [if_neg z, if_false]; exact yes
  · simp (decide := true) only [q, if_true, if_false]
    by_cases z : a < b
    · simp (decide := true) only [if_pos z, if_true]; exact no
    · simp (decide := true) only [if_neg z, if_false]; exact yes
  · simp (decide := true) only [q, if_true, if_false]
    cases m_X10_isBelow a b
    · exact no
    · exact yes
  · simp (decide := true) only [q, if_true, if_false]
    cases m_X10_isBelow a b
    · exact yes
    · exact no
