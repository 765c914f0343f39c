/-! THE TABLES ARE THE STATEMENT'S WORDS -/
def Rn (own : Nat) : String := match own with
  | 0 => RX0
  | 1 => RX1
  | 2 => RX2
  | 3 => RX3
  | 4 => RX4
  | 5 => RX5
  | 6 => RX6
  | 7 => RX7
  | 8 => RX8
  | 9 => RX9
  | 10 => RX10
  | 11 => RX11
  | 12 => RX12
  | 13 => RL
  | 14 => RJ6
  | _ => ""
theorem tb_mem {w : Jvm.Cond} (h : w ∈ lw_tbl) (g : goodWord w = true) : w ∈ tb_w := List.mem_filter.mpr ⟨h, g⟩
def t_in (w : Jvm.Cond) : Bool := goodWord w && decide (w ∈ lw_tbl)
theorem t_in_ok {w : Jvm.Cond} (h : t_in w = true) : w ∈ tb_w := by
  unfold t_in at h
  simp only [Bool.and_eq_true, decide_eq_true_eq] at h
  exact tb_mem h.2 h.1
def t_ty (d : String) (ty : Nat) : Bool := match parseFieldDescriptor d with
  | some .int => Nat.beq ty 0
  | some .long => Nat.beq ty 1
  | some (.object _) => Nat.beq ty 2
  | some (.array _) => Nat.beq ty 2
  | _ => false
def f_ok (own : Nat) (q : Nat × Nat × Nat × Nat × Bool) : Bool := match vwCl[q.2.1]? with
  | some r => Nat.blt q.2.2.1 r.2.2 && (decide ((r.2.1 q.2.2.1).1 = r.1) && (decide ((r.2.1 q.2.2.1).2.2.2 = q.2.2.2.2) && (t_ty (r.2.1 q.2.2.1).2.2.1 q.2.2.2.1 && (decide ((m_ft q.2.1)[q.2.2.1]? = some q.2.2.2.1) && (decide ((m_ft q.2.1).length = r.2.2) && t_in (.fieldLink (Rn own) q.1 r.1 (r.2.1 q.2.2.1).2.1 (r.2.1 q.2.2.1).2.2.1))))))
  | none => false
theorem f_all_0 : (m_P 0).1.all (f_ok 0) = true := by decide +kernel
theorem f_all_1 : (m_P 1).1.all (f_ok 1) = true := by decide +kernel
theorem f_all_2 : (m_P 2).1.all (f_ok 2) = true := by decide +kernel
theorem f_all_3 : (m_P 3).1.all (f_ok 3) = true := by decide +kernel
theorem f_all_4 : (m_P 4).1.all (f_ok 4) = true := by decide +kernel
theorem f_all_5 : (m_P 5).1.all (f_ok 5) = true := by decide +kernel
theorem f_all_6 : (m_P 6).1.all (f_ok 6) = true := by decide +kernel
theorem f_all_7 : (m_P 7).1.all (f_ok 7) = true := by decide +kernel
theorem f_all_8 : (m_P 8).1.all (f_ok 8) = true := by decide +kernel
theorem f_all_9 : (m_P 9).1.all (f_ok 9) = true := by decide +kernel
theorem f_all_10 : (m_P 10).1.all (f_ok 10) = true := by decide +kernel
theorem f_all_11 : (m_P 11).1.all (f_ok 11) = true := by decide +kernel
theorem f_all_12 : (m_P 12).1.all (f_ok 12) = true := by decide +kernel
theorem f_all_13 : (m_P 13).1.all (f_ok 13) = true := by decide +kernel
theorem f_all_14 : (m_P 14).1.all (f_ok 14) = true := by decide +kernel
theorem f_all (own : Nat) : (m_P own).1.all (f_ok own) = true := by
  match own with
  | 0 => exact f_all_0
  | 1 => exact f_all_1
  | 2 => exact f_all_2
  | 3 => exact f_all_3
  | 4 => exact f_all_4
  | 5 => exact f_all_5
  | 6 => exact f_all_6
  | 7 => exact f_all_7
  | 8 => exact f_all_8
  | 9 => exact f_all_9
  | 10 => exact f_all_10
  | 11 => exact f_all_11
  | 12 => exact f_all_12
  | 13 => exact f_all_13
  | 14 => exact f_all_14
  | n + 15 => rfl
def c_ok (ci : Nat) (r : vw_C) (ty : Nat → FieldType) : Bool := (u_ws r.1 r.2.1 r.2.2).all goodWord && (decide ((m_ft ci).length = r.2.2) && (List.range r.2.2).all (fun k => decide (parseFieldDescriptor (r.2.1 k).2.2.1 = some (ty k)) && t_ty (r.2.1 k).2.2.1 ((m_ft ci).getD k 0)))
theorem c_all_0 : c_ok 0 (RX0, TX0, 14) tyX0 = true := by decide +kernel
theorem c_all_1 : c_ok 1 (RX1, TX1, 6) tyX1 = true := by decide +kernel
theorem c_all_2 : c_ok 2 (RX2, TX2, 9) tyX2 = true := by decide +kernel
theorem c_all_3 : c_ok 3 (RX3, TX3, 3) tyX3 = true := by decide +kernel
theorem c_all_4 : c_ok 4 (RX4, TX4, 4) tyX4 = true := by decide +kernel
theorem c_all_5 : c_ok 5 (RX5, TX5, 4) tyX5 = true := by decide +kernel
theorem c_all_6 : c_ok 6 (RX6, TX6, 7) tyX6 = true := by decide +kernel
theorem c_all_7 : c_ok 7 (RX7, TX7, 6) tyX7 = true := by decide +kernel
theorem c_all_8 : c_ok 8 (RX8, TX8, 6) tyX8 = true := by decide +kernel
theorem c_all_9 : c_ok 9 (RX9, TX9, 4) tyX9 = true := by decide +kernel
theorem c_all_10 : c_ok 10 (RX10, TX10, 7) tyX10 = true := by decide +kernel
theorem c_all_11 : c_ok 11 (RX11, TX11, 14) tyX11 = true := by decide +kernel
theorem c_all_12 : c_ok 12 (RX12, TX12, 42) tyX12 = true := by decide +kernel
def m_ty (c : Nat) : Nat → FieldType := match c with
  | 0 => tyX0
  | 1 => tyX1
  | 2 => tyX2
  | 3 => tyX3
  | 4 => tyX4
  | 5 => tyX5
  | 6 => tyX6
  | 7 => tyX7
  | 8 => tyX8
  | 9 => tyX9
  | 10 => tyX10
  | 11 => tyX11
  | 12 => tyX12
  | _ => fun _ => .int
theorem cl_all {ci : Nat} {r : vw_C} (h : vwCl[ci]? = some r) : (∀ w ∈ u_ws r.1 r.2.1 r.2.2, w ∈ tb_w) ∧ (∀ a, a < r.2.2 → ∀ b, b < r.2.2 → a ≠ b → (r.2.1 a).2.1 ≠ (r.2.1 b).2.1) ∧ (∀ k, k < r.2.2 → parseFieldDescriptor (r.2.1 k).2.2.1 = some (m_ty ci k)) ∧ c_ok ci r (m_ty ci) = true := by
  have key : ∀ {w : Jvm.Cond} {ws : List Jvm.Cond}, ws.all goodWord = true → (∀ w ∈ ws, w ∈ lw_tbl) → w ∈ ws → w ∈ tb_w := fun h1 h2 h3 => tb_mem (h2 _ h3) (List.all_eq_true.mp h1 _ h3)
  match ci, h with
  | 0, h =>
    cases h
    exact ⟨fun w hw => key (Bool.and_eq_true_iff.mp c_all_0).1 inX0 hw, nmX0, tyX0_ok, c_all_0⟩
  | 1, h =>
    cases h
    exact ⟨fun w hw => key (Bool.and_eq_true_iff.mp c_all_1).1 inX1 hw, nmX1, tyX1_ok, c_all_1⟩
  | 2, h =>
    cases h
    exact ⟨fun w hw => key (Bool.and_eq_true_iff.mp c_all_2).1 inX2 hw, nmX2, tyX2_ok, c_all_2⟩
  | 3, h =>
    cases h
    exact ⟨fun w hw => key (Bool.and_eq_true_iff.mp c_all_3).1 inX3 hw, nmX3, tyX3_ok, c_all_3⟩
  | 4, h =>
    cases h
    exact ⟨fun w hw => key (Bool.and_eq_true_iff.mp c_all_4).1 inX4 hw, nmX4, tyX4_ok, c_all_4⟩
  | 5, h =>
    cases h
    exact ⟨fun w hw => key (Bool.and_eq_true_iff.mp c_all_5).1 inX5 hw, nmX5, tyX5_ok, c_all_5⟩
  | 6, h =>
    cases h
    exact ⟨fun w hw => key (Bool.and_eq_true_iff.mp c_all_6).1 inX6 hw, nmX6, tyX6_ok, c_all_6⟩
  | 7, h =>
    cases h
    exact ⟨fun w hw => key (Bool.and_eq_true_iff.mp c_all_7).1 inX7 hw, nmX7, tyX7_ok, c_all_7⟩
  | 8, h =>
    cases h
    exact ⟨fun w hw => key (Bool.and_eq_true_iff.mp c_all_8).1 inX8 hw, nmX8, tyX8_ok, c_all_8⟩
  | 9, h =>
    cases h
    exact ⟨fun w hw => key (Bool.and_eq_true_iff.mp c_all_9).1 inX9 hw, nmX9, tyX9_ok, c_all_9⟩
  | 10, h =>
    cases h
    exact ⟨fun w hw => key (Bool.and_eq_true_iff.mp c_all_10).1 inX10 hw, nmX10, tyX10_ok, c_all_10⟩
  | 11, h =>
    cases h
    exact ⟨fun w hw => key (Bool.and_eq_true_iff.mp c_all_11).1 inX11 hw, nmX11, tyX11_ok, c_all_11⟩
  | 12, h =>
    cases h
    exact ⟨fun w hw => key (Bool.and_eq_true_iff.mp c_all_12).1 inX12 hw, nmX12, tyX12_ok, c_all_12⟩
  | n + 13, h => simp [vwCl] at h
theorem Rn_cl {ci : Nat} {r : vw_C} (h : vwCl[ci]? = some r) : Rn ci = r.1 := by
  match ci, h with
  | 0, h => cases h; rfl
  | 1, h => cases h; rfl
  | 2, h => cases h; rfl
  | 3, h => cases h; rfl
  | 4, h => cases h; rfl
  | 5, h => cases h; rfl
  | 6, h => cases h; rfl
  | 7, h => cases h; rfl
  | 8, h => cases h; rfl
  | 9, h => cases h; rfl
  | 10, h => cases h; rfl
  | 11, h => cases h; rfl
  | 12, h => cases h; rfl
  | n + 13, h => simp [vwCl] at h
