/-! AT THE LAW'S ENTRY: what the Statement gives, as the small machine wants it (by program) -/
def tm_s (j : Nat) : Term := match j with
  | 0 => .string "PostFrame$FrameReader" 78
  | 1 => .string "PostFrame$FrameReader" 84
  | 2 => .string "PostFrame$FrameReader" 86
  | 3 => .string "PostFrame$FrameReader" 88
  | 4 => .string "PostFrame$RuleReader" 47
  | 5 => .string "PostFrame$RuleReader" 116
  | 6 => .string "PostFrame$RuleReader" 118
  | 7 => .string "PostFrame$RuleReader" 120
  | 8 => .string "PostFrame$RuleReader" 122
  | 9 => .string "PostFrame$RuleReader" 124
  | 10 => .string "PostFrame$RuleReader" 126
  | 11 => .string "PostFrame$RuleReader" 130
  | 12 => .string "PostFrame$RuleReader" 132
  | 13 => .string "PostFrame$RuleReader" 134
  | 14 => .string "PostFrame$RuleReader" 136
  | 15 => .string "PostFrame$RuleReader" 61
  | 16 => .string "PostFrame$RuleReader" 83
  | 17 => .string "PostFrame$RuleReader" 76
  | _ => .string "PostFrame$RuleReader" 81
def g_fl : List Jvm.Cond := flatC (Jvm.Cond.and given_1 narrow_1)
theorem tn_1 : ∀ i : Nat, i < m_nS → m_sl.getD i 0 < 2 ^ 31 := by decide +kernel
theorem tn_2 : ∀ i : Nat, i < m_nS → Cond.exactly (tm_s i) "java/lang/String" ∈ g_fl := by decide +kernel
theorem tn_3 : ∀ i : Nat, i < m_nS → Cond.eq (.field (tm_s i) "java/lang/String" "coder" "B") (.int 0) ∈ g_fl := by decide +kernel
theorem tn_4 : ∀ i : Nat, i < m_nS → Cond.arrayOf (.field (tm_s i) "java/lang/String" "value" "[B") .byte ∈ g_fl := by decide +kernel
theorem tn_5 : ∀ i : Nat, i < m_nS → Cond.eq (.length (.field (tm_s i) "java/lang/String" "value" "[B")) (.int (Int32.ofNat (m_sl.getD i 0))) ∈ g_fl := by decide +kernel
theorem tn_6 : ∀ i : Nat, i < m_nS → ∀ j : Nat, j < m_sl.getD i 0 → Cond.eq (.elem (.field (tm_s i) "java/lang/String" "value" "[B") (.int (Int32.ofNat j))) (.int ((m_sb.getD i []).getD j 0)) ∈ g_fl := by decide +kernel
theorem tn_7_0 : ∀ j : Nat, j < m_nS → 0 = j ∨ (Cond.not (Cond.eq (tm_s 0) (tm_s j)) ∈ g_fl ∨ Cond.not (Cond.eq (tm_s j) (tm_s 0)) ∈ g_fl) := by decide +kernel
theorem tn_7_1 : ∀ j : Nat, j < m_nS → 1 = j ∨ (Cond.not (Cond.eq (tm_s 1) (tm_s j)) ∈ g_fl ∨ Cond.not (Cond.eq (tm_s j) (tm_s 1)) ∈ g_fl) := by decide +kernel
theorem tn_7_2 : ∀ j : Nat, j < m_nS → 2 = j ∨ (Cond.not (Cond.eq (tm_s 2) (tm_s j)) ∈ g_fl ∨ Cond.not (Cond.eq (tm_s j) (tm_s 2)) ∈ g_fl) := by decide +kernel
theorem tn_7_3 : ∀ j : Nat, j < m_nS → 3 = j ∨ (Cond.not (Cond.eq (tm_s 3) (tm_s j)) ∈ g_fl ∨ Cond.not (Cond.eq (tm_s j) (tm_s 3)) ∈ g_fl) := by decide +kernel
theorem tn_7_4 : ∀ j : Nat, j < m_nS → 4 = j ∨ (Cond.not (Cond.eq (tm_s 4) (tm_s j)) ∈ g_fl ∨ Cond.not (Cond.eq (tm_s j) (tm_s 4)) ∈ g_fl) := by decide +kernel
theorem tn_7_5 : ∀ j : Nat, j < m_nS → 5 = j ∨ (Cond.not (Cond.eq (tm_s 5) (tm_s j)) ∈ g_fl ∨ Cond.not (Cond.eq (tm_s j) (tm_s 5)) ∈ g_fl) := by decide +kernel
theorem tn_7_6 : ∀ j : Nat, j < m_nS → 6 = j ∨ (Cond.not (Cond.eq (tm_s 6) (tm_s j)) ∈ g_fl ∨ Cond.not (Cond.eq (tm_s j) (tm_s 6)) ∈ g_fl) := by decide +kernel
theorem tn_7_7 : ∀ j : Nat, j < m_nS → 7 = j ∨ (Cond.not (Cond.eq (tm_s 7) (tm_s j)) ∈ g_fl ∨ Cond.not (Cond.eq (tm_s j) (tm_s 7)) ∈ g_fl) := by decide +kernel
theorem tn_7_8 : ∀ j : Nat, j < m_nS → 8 = j ∨ (Cond.not (Cond.eq (tm_s 8) (tm_s j)) ∈ g_fl ∨ Cond.not (Cond.eq (tm_s j) (tm_s 8)) ∈ g_fl) := by decide +kernel
theorem tn_7_9 : ∀ j : Nat, j < m_nS → 9 = j ∨ (Cond.not (Cond.eq (tm_s 9) (tm_s j)) ∈ g_fl ∨ Cond.not (Cond.eq (tm_s j) (tm_s 9)) ∈ g_fl) := by decide +kernel
theorem tn_7_10 : ∀ j : Nat, j < m_nS → 10 = j ∨ (Cond.not (Cond.eq (tm_s 10) (tm_s j)) ∈ g_fl ∨ Cond.not (Cond.eq (tm_s j) (tm_s 10)) ∈ g_fl) := by decide +kernel
theorem tn_7_11 : ∀ j : Nat, j < m_nS → 11 = j ∨ (Cond.not (Cond.eq (tm_s 11) (tm_s j)) ∈ g_fl ∨ Cond.not (Cond.eq (tm_s j) (tm_s 11)) ∈ g_fl) := by decide +kernel
theorem tn_7_12 : ∀ j : Nat, j < m_nS → 12 = j ∨ (Cond.not (Cond.eq (tm_s 12) (tm_s j)) ∈ g_fl ∨ Cond.not (Cond.eq (tm_s j) (tm_s 12)) ∈ g_fl) := by decide +kernel
theorem tn_7_13 : ∀ j : Nat, j < m_nS → 13 = j ∨ (Cond.not (Cond.eq (tm_s 13) (tm_s j)) ∈ g_fl ∨ Cond.not (Cond.eq (tm_s j) (tm_s 13)) ∈ g_fl) := by decide +kernel
theorem tn_7_14 : ∀ j : Nat, j < m_nS → 14 = j ∨ (Cond.not (Cond.eq (tm_s 14) (tm_s j)) ∈ g_fl ∨ Cond.not (Cond.eq (tm_s j) (tm_s 14)) ∈ g_fl) := by decide +kernel
theorem tn_7_15 : ∀ j : Nat, j < m_nS → 15 = j ∨ (Cond.not (Cond.eq (tm_s 15) (tm_s j)) ∈ g_fl ∨ Cond.not (Cond.eq (tm_s j) (tm_s 15)) ∈ g_fl) := by decide +kernel
theorem tn_7_16 : ∀ j : Nat, j < m_nS → 16 = j ∨ (Cond.not (Cond.eq (tm_s 16) (tm_s j)) ∈ g_fl ∨ Cond.not (Cond.eq (tm_s j) (tm_s 16)) ∈ g_fl) := by decide +kernel
theorem tn_7_17 : ∀ j : Nat, j < m_nS → 17 = j ∨ (Cond.not (Cond.eq (tm_s 17) (tm_s j)) ∈ g_fl ∨ Cond.not (Cond.eq (tm_s j) (tm_s 17)) ∈ g_fl) := by decide +kernel
theorem tn_7_18 : ∀ j : Nat, j < m_nS → 18 = j ∨ (Cond.not (Cond.eq (tm_s 18) (tm_s j)) ∈ g_fl ∨ Cond.not (Cond.eq (tm_s j) (tm_s 18)) ∈ g_fl) := by decide +kernel
theorem tn_7 : ∀ i j : Nat, i < m_nS → j < m_nS → i ≠ j → Cond.not (Cond.eq (tm_s i) (tm_s j)) ∈ g_fl ∨ Cond.not (Cond.eq (tm_s j) (tm_s i)) ∈ g_fl := by
  intro i j hi hj hij
  match i, hi with
  | 0, _ => exact (tn_7_0 j hj).resolve_left hij
  | 1, _ => exact (tn_7_1 j hj).resolve_left hij
  | 2, _ => exact (tn_7_2 j hj).resolve_left hij
  | 3, _ => exact (tn_7_3 j hj).resolve_left hij
  | 4, _ => exact (tn_7_4 j hj).resolve_left hij
  | 5, _ => exact (tn_7_5 j hj).resolve_left hij
  | 6, _ => exact (tn_7_6 j hj).resolve_left hij
  | 7, _ => exact (tn_7_7 j hj).resolve_left hij
  | 8, _ => exact (tn_7_8 j hj).resolve_left hij
  | 9, _ => exact (tn_7_9 j hj).resolve_left hij
  | 10, _ => exact (tn_7_10 j hj).resolve_left hij
  | 11, _ => exact (tn_7_11 j hj).resolve_left hij
  | 12, _ => exact (tn_7_12 j hj).resolve_left hij
  | 13, _ => exact (tn_7_13 j hj).resolve_left hij
  | 14, _ => exact (tn_7_14 j hj).resolve_left hij
  | 15, _ => exact (tn_7_15 j hj).resolve_left hij
  | 16, _ => exact (tn_7_16 j hj).resolve_left hij
  | 17, _ => exact (tn_7_17 j hj).resolve_left hij
  | 18, _ => exact (tn_7_18 j hj).resolve_left hij
  | n + 19, hi => exact absurd hi (by show ¬ n + 19 < 19; omega)
def m_ks : List (Nat × Nat × Int) := [(3, 78, -10), (3, 84, -11), (3, 86, -12), (3, 88, -13), (6, 47, -14), (6, 116, -15), (6, 118, -16), (6, 120, -17), (6, 122, -18), (6, 124, -19), (6, 126, -20), (6, 128, -11), (6, 130, -21), (6, 132, -22), (6, 134, -23), (6, 136, -24), (6, 61, -25), (6, 83, -26), (6, 76, -27), (6, 81, -28)]
theorem m_ks_all : (List.range 15).all (fun own => (m_P own).2.1.all (fun q => match q.2 with | .inr (.inr a) => decide ((own, q.1, a) ∈ m_ks) | _ => true)) = true := by decide +kernel
theorem m_ks_use {own i : Nat} {a : Int} (h : m_l (m_P own).2.1 i = some (.inr (.inr a))) : (own, i, a) ∈ m_ks := by
  by_cases h16 : own < 15
  · have h1 := List.all_eq_true.mp (List.all_eq_true.mp m_ks_all own (List.mem_range.mpr h16)) _ (m_l_mem h)
    simpa using h1
  · match own, h16 with
    | n + 15, _ => cases h
    | 0, z | 1, z | 2, z | 3, z | 4, z | 5, z | 6, z | 7, z | 8, z | 9, z | 10, z | 11, z | 12, z | 13, z | 14, z => exact absurd (by decide) z
theorem sr_0 : Jvm.Cond.stringRef "PostFrame$FrameReader" 78 "frame" ∈ lw_tbl := by decide +kernel
theorem sr_1 : Jvm.Cond.stringRef "PostFrame$FrameReader" 84 "room" ∈ lw_tbl := by decide +kernel
theorem sr_2 : Jvm.Cond.stringRef "PostFrame$FrameReader" 86 "plan" ∈ lw_tbl := by decide +kernel
theorem sr_3 : Jvm.Cond.stringRef "PostFrame$FrameReader" 88 "letter" ∈ lw_tbl := by decide +kernel
theorem sr_4 : Jvm.Cond.stringRef "PostFrame$RuleReader" 47 "take" ∈ lw_tbl := by decide +kernel
theorem sr_5 : Jvm.Cond.stringRef "PostFrame$RuleReader" 116 "place" ∈ lw_tbl := by decide +kernel
theorem sr_6 : Jvm.Cond.stringRef "PostFrame$RuleReader" 118 "code" ∈ lw_tbl := by decide +kernel
theorem sr_7 : Jvm.Cond.stringRef "PostFrame$RuleReader" 120 "first" ∈ lw_tbl := by decide +kernel
theorem sr_8 : Jvm.Cond.stringRef "PostFrame$RuleReader" 122 "last" ∈ lw_tbl := by decide +kernel
theorem sr_9 : Jvm.Cond.stringRef "PostFrame$RuleReader" 124 "hole" ∈ lw_tbl := by decide +kernel
theorem sr_10 : Jvm.Cond.stringRef "PostFrame$RuleReader" 126 "lying" ∈ lw_tbl := by decide +kernel
theorem sr_11 : Jvm.Cond.stringRef "PostFrame$RuleReader" 128 "room" ∈ lw_tbl := by decide +kernel
theorem sr_12 : Jvm.Cond.stringRef "PostFrame$RuleReader" 130 "fit" ∈ lw_tbl := by decide +kernel
theorem sr_13 : Jvm.Cond.stringRef "PostFrame$RuleReader" 132 "waiting" ∈ lw_tbl := by decide +kernel
theorem sr_14 : Jvm.Cond.stringRef "PostFrame$RuleReader" 134 "bags" ∈ lw_tbl := by decide +kernel
theorem sr_15 : Jvm.Cond.stringRef "PostFrame$RuleReader" 136 "turn" ∈ lw_tbl := by decide +kernel
theorem sr_16 : Jvm.Cond.stringRef "PostFrame$RuleReader" 61 "if" ∈ lw_tbl := by decide +kernel
theorem sr_17 : Jvm.Cond.stringRef "PostFrame$RuleReader" 83 "not" ∈ lw_tbl := by decide +kernel
theorem sr_18 : Jvm.Cond.stringRef "PostFrame$RuleReader" 76 "and" ∈ lw_tbl := by decide +kernel
theorem sr_19 : Jvm.Cond.stringRef "PostFrame$RuleReader" 81 "or" ∈ lw_tbl := by decide +kernel
theorem sr_d0 : Cond.eq (tm_s 1) (.string "PostFrame$RuleReader" 128) ∈ g_fl := by decide +kernel
theorem tm_same {args : Array Value} {s : State} {t1 t2 : Term} {a : Nat} (h : (Cond.eq t1 t2).before args s = true) (h1 : t1.eval args s none [] s = some (.ref a)) : t2.eval args s none [] s = some (.ref a) := by
  simp only [Cond.before, Cond.holds, Cond.value, h1] at h
  cases hv : t2.eval args s none [] s with
  | none => simp [hv] at h
  | some v => cases v <;> simp_all
theorem st_SK {args : Array Value} {s : State} {sA : Nat → Nat} (hts : ∀ w ∈ lw_tbl, w.before args s = true) (hg : ∀ w ∈ g_fl, w.before args s = true) (h : ∀ i : Nat, i < m_nS → (tm_s i).eval args s none [] s = some (.ref (sA i))) : SK sA #[] s := by
  intro own i j hp
  have hm := m_ks_use hp
  have ej : ∀ k : Nat, (-10 - (j : Int)) = -10 - (k : Int) → j = k := fun k z => by omega
  simp only [m_ks, List.mem_cons, Prod.mk.injEq, List.not_mem_nil, or_false] at hm
  rcases hm with ⟨rfl, rfl, hz⟩ | ⟨rfl, rfl, hz⟩ | ⟨rfl, rfl, hz⟩ | ⟨rfl, rfl, hz⟩ | ⟨rfl, rfl, hz⟩ | ⟨rfl, rfl, hz⟩ | ⟨rfl, rfl, hz⟩ | ⟨rfl, rfl, hz⟩ | ⟨rfl, rfl, hz⟩ | ⟨rfl, rfl, hz⟩ | ⟨rfl, rfl, hz⟩ | ⟨rfl, rfl, hz⟩ | ⟨rfl, rfl, hz⟩ | ⟨rfl, rfl, hz⟩ | ⟨rfl, rfl, hz⟩ | ⟨rfl, rfl, hz⟩ | ⟨rfl, rfl, hz⟩ | ⟨rfl, rfl, hz⟩ | ⟨rfl, rfl, hz⟩ | ⟨rfl, rfl, hz⟩
  · obtain rfl := ej 0 (by omega)
    exact ⟨by decide, "frame", vk_R.of (hts _ sr_0) (h 0 (by decide))⟩
  · obtain rfl := ej 1 (by omega)
    exact ⟨by decide, "room", vk_R.of (hts _ sr_1) (h 1 (by decide))⟩
  · obtain rfl := ej 2 (by omega)
    exact ⟨by decide, "plan", vk_R.of (hts _ sr_2) (h 2 (by decide))⟩
  · obtain rfl := ej 3 (by omega)
    exact ⟨by decide, "letter", vk_R.of (hts _ sr_3) (h 3 (by decide))⟩
  · obtain rfl := ej 4 (by omega)
    exact ⟨by decide, "take", vk_R.of (hts _ sr_4) (h 4 (by decide))⟩
  · obtain rfl := ej 5 (by omega)
    exact ⟨by decide, "place", vk_R.of (hts _ sr_5) (h 5 (by decide))⟩
  · obtain rfl := ej 6 (by omega)
    exact ⟨by decide, "code", vk_R.of (hts _ sr_6) (h 6 (by decide))⟩
  · obtain rfl := ej 7 (by omega)
    exact ⟨by decide, "first", vk_R.of (hts _ sr_7) (h 7 (by decide))⟩
  · obtain rfl := ej 8 (by omega)
    exact ⟨by decide, "last", vk_R.of (hts _ sr_8) (h 8 (by decide))⟩
  · obtain rfl := ej 9 (by omega)
    exact ⟨by decide, "hole", vk_R.of (hts _ sr_9) (h 9 (by decide))⟩
  · obtain rfl := ej 10 (by omega)
    exact ⟨by decide, "lying", vk_R.of (hts _ sr_10) (h 10 (by decide))⟩
  · obtain rfl := ej 1 (by omega)
    exact ⟨by decide, "room", vk_R.of (hts _ sr_11) (tm_same (hg _ sr_d0) (h 1 (by decide)))⟩
  · obtain rfl := ej 11 (by omega)
    exact ⟨by decide, "fit", vk_R.of (hts _ sr_12) (h 11 (by decide))⟩
  · obtain rfl := ej 12 (by omega)
    exact ⟨by decide, "waiting", vk_R.of (hts _ sr_13) (h 12 (by decide))⟩
  · obtain rfl := ej 13 (by omega)
    exact ⟨by decide, "bags", vk_R.of (hts _ sr_14) (h 13 (by decide))⟩
  · obtain rfl := ej 14 (by omega)
    exact ⟨by decide, "turn", vk_R.of (hts _ sr_15) (h 14 (by decide))⟩
  · obtain rfl := ej 15 (by omega)
    exact ⟨by decide, "if", vk_R.of (hts _ sr_16) (h 15 (by decide))⟩
  · obtain rfl := ej 16 (by omega)
    exact ⟨by decide, "not", vk_R.of (hts _ sr_17) (h 16 (by decide))⟩
  · obtain rfl := ej 17 (by omega)
    exact ⟨by decide, "and", vk_R.of (hts _ sr_18) (h 17 (by decide))⟩
  · obtain rfl := ej 18 (by omega)
    exact ⟨by decide, "or", vk_R.of (hts _ sr_19) (h 18 (by decide))⟩
theorem st_K {args : Array Value} {s : State} (hts : ∀ w ∈ lw_tbl, w.before args s = true) : ∃ D : va_G, va_K D vwCl [] s := by
  obtain ⟨c0, i0, k0⟩ := u_known (C := RX0) (T := TX0) (N := 14) (n := 14) hts inX0 (hts (.instantiable RX0 14) (by decide +kernel))
  obtain ⟨c1, i1, k1⟩ := u_known (C := RX1) (T := TX1) (N := 6) (n := 6) hts inX1 (hts (.instantiable RX1 6) (by decide +kernel))
  obtain ⟨c2, i2, k2⟩ := u_known (C := RX2) (T := TX2) (N := 9) (n := 9) hts inX2 (hts (.instantiable RX2 9) (by decide +kernel))
  obtain ⟨c3, i3, k3⟩ := u_known (C := RX3) (T := TX3) (N := 3) (n := 3) hts inX3 (hts (.instantiable RX3 3) (by decide +kernel))
  obtain ⟨c4, i4, k4⟩ := u_known (C := RX4) (T := TX4) (N := 4) (n := 4) hts inX4 (hts (.instantiable RX4 4) (by decide +kernel))
  obtain ⟨c5, i5, k5⟩ := u_known (C := RX5) (T := TX5) (N := 4) (n := 4) hts inX5 (hts (.instantiable RX5 4) (by decide +kernel))
  obtain ⟨c6, i6, k6⟩ := u_known (C := RX6) (T := TX6) (N := 7) (n := 7) hts inX6 (hts (.instantiable RX6 7) (by decide +kernel))
  obtain ⟨c7, i7, k7⟩ := u_known (C := RX7) (T := TX7) (N := 6) (n := 6) hts inX7 (hts (.instantiable RX7 6) (by decide +kernel))
  obtain ⟨c8, i8, k8⟩ := u_known (C := RX8) (T := TX8) (N := 6) (n := 6) hts inX8 (hts (.instantiable RX8 6) (by decide +kernel))
  obtain ⟨c9, i9, k9⟩ := u_known (C := RX9) (T := TX9) (N := 4) (n := 4) hts inX9 (hts (.instantiable RX9 4) (by decide +kernel))
  obtain ⟨c10, i10, k10⟩ := u_known (C := RX10) (T := TX10) (N := 7) (n := 7) hts inX10 (hts (.instantiable RX10 7) (by decide +kernel))
  obtain ⟨c11, i11, k11⟩ := u_known (C := RX11) (T := TX11) (N := 14) (n := 14) hts inX11 (hts (.instantiable RX11 14) (by decide +kernel))
  obtain ⟨c12, i12, k12⟩ := u_known (C := RX12) (T := TX12) (N := 42) (n := 42) hts inX12 (hts (.instantiable RX12 42) (by decide +kernel))
  refine ⟨(fun k => match k with
    | 0 => c0
    | 1 => c1
    | 2 => c2
    | 3 => c3
    | 4 => c4
    | 5 => c5
    | 6 => c6
    | 7 => c7
    | 8 => c8
    | 9 => c9
    | 10 => c10
    | 11 => c11
    | _ => c12, fun k => match k with
    | 0 => i0
    | 1 => i1
    | 2 => i2
    | 3 => i3
    | 4 => i4
    | 5 => i5
    | 6 => i6
    | 7 => i7
    | 8 => i8
    | 9 => i9
    | 10 => i10
    | 11 => i11
    | _ => i12), fun k q hq => ?_, fun k q h => by simp at h⟩
  match k, hq with
  | 0, hq => cases hq; exact k0
  | 1, hq => cases hq; exact k1
  | 2, hq => cases hq; exact k2
  | 3, hq => cases hq; exact k3
  | 4, hq => cases hq; exact k4
  | 5, hq => cases hq; exact k5
  | 6, hq => cases hq; exact k6
  | 7, hq => cases hq; exact k7
  | 8, hq => cases hq; exact k8
  | 9, hq => cases hq; exact k9
  | 10, hq => cases hq; exact k10
  | 11, hq => cases hq; exact k11
  | 12, hq => cases hq; exact k12
  | n + 13, hq => simp [vwCl] at hq
theorem w9_1 : Jvm.Cond.arrayOver (.object RX5) ∈ lw_tbl := by decide +kernel
theorem w9_2 : Jvm.Cond.arrayOver (.object RX2) ∈ lw_tbl := by decide +kernel
theorem w9_3 : Jvm.Cond.arrayOver (.object RX10) ∈ lw_tbl := by decide +kernel
theorem w9_4 : Jvm.Cond.arrayOver (.array .int) ∈ lw_tbl := by decide +kernel
theorem w9_5 : ∀ q ∈ m_nl, Jvm.Cond.methodLinkNest q.1 q.2.1 q.2.2.1 q.2.2.2 ∈ lw_tbl := by decide +kernel
theorem w9_6 : Jvm.Cond.laysStatic "java/lang/String" "COMPACT_STRINGS" "Z" ∈ lw_tbl := by decide +kernel
theorem w9_7 : Jvm.Cond.laysStatic "jdk/internal/util/Preconditions" "SIOOBE_FORMATTER" "Ljava/util/function/BiFunction;" ∈ lw_tbl := by decide +kernel
theorem w9_8 : Cond.eq (.static "java/lang/String" "COMPACT_STRINGS" "Z") (.int 1) ∈ g_fl := by decide +kernel
theorem w9_9 : Cond.isRef (.static "jdk/internal/util/Preconditions" "SIOOBE_FORMATTER" "Ljava/util/function/BiFunction;") ∈ g_fl := by decide +kernel
theorem w9_a : Jvm.Cond.initialized "java/lang/String" ∈ lw_tbl := by decide +kernel
theorem w9_b : Jvm.Cond.initialized "jdk/internal/util/Preconditions" ∈ lw_tbl := by decide +kernel
theorem st_EV {b L : Nat} {xs : Nat → Int32} {s : State} (hts : ∀ w ∈ lw_tbl, w.before #[Value.ref b] s = true) (hgv : (Jvm.Cond.and given_1 narrow_1).before #[Value.ref b] s = true) (hX : va_X b L xs s s.heap) (hbl : b < s.heap.size) (hL : L ≤ 3072) : ∃ sA : Nat → Nat, EV sA b (fun q => s.heap.size ≤ q) (fun j => (xs j.toNat).toInt) L s := by
  have hg : ∀ w ∈ g_fl, w.before #[Value.ref b] s = true := flat_of_before _ hgv
  have hA : ∀ a : Nat, a < s.heap.size → ¬ (fun q => s.heap.size ≤ q) a := fun a h => Nat.not_le.mpr h
  obtain ⟨sA, adV, hS, hev⟩ := vk_Sof (args := #[Value.ref b]) (s := s) (N := m_nS) (tm := tm_s) (len := m_sl) (byt := m_sb) (A := fun q => s.heap.size ≤ q) tn_1 (fun i hi => hg _ (tn_2 i hi)) (fun i hi => hg _ (tn_3 i hi)) (fun i hi => hg _ (tn_4 i hi)) (fun i hi => hg _ (tn_5 i hi)) (fun i hi j hj => hg _ (tn_6 i hi j hj)) (fun i j hi hj hij => (tn_7 i j hi hj hij).imp (fun h => hg _ h) (fun h => hg _ h)) hA
  refine ⟨sA, ⟨L, xs, hX, hbl, hA b hbl, rfl, by omega, fun j hj => by show _ = (xs ((j : Int)).toNat).toInt; rw [Int.toNat_natCast]⟩, ⟨hts _ w9_1, hts _ w9_2, hts _ w9_3⟩, st_SK hts hg hev, ⟨fun q hq => va_Nw.of rfl (hts _ (w9_5 q hq)), hts _ w9_4⟩, adV, hS, ?_, ?_⟩
  · exact va_Zof (hts _ w9_6) (hts _ w9_a) (va_eqt (hg _ w9_8)) hA
  · exact va_Zqof (hts _ w9_7) (hts _ w9_b) (hg _ w9_9) hA
/-- the small machine's heap at first -/
def h_0 : MH := ((0, 0, true), (fun _ => (0, 0)), fun _ _ => 0)
/-- THE CLAIM OUT OF A RUN OF THE SMALL MACHINE -/
theorem start_of {p : Program} {e : Env} {s : State} {m : MethodId} {below : List Frame} {meth : Method} {c : Code} (l : Launch) {b L : Nat} {xs : Nat → Int32} (hL : L ≤ 3072) (C0 : lw_At p s m meth c b L xs) {n d : Nat} {hf : MH} (hd : d ≤ 1300)
    (hrun : m_run (fun j => (xs j.toNat).toInt) L n d iL_law 0 (m_ent 4 [.inr (.inr (-2))]) [] h_0 = (some (.inl 1), hf)) (hok : m_ok hf = true) (hc : hf.1.1 ≤ 600000) (hs : hf.1.2.1 ≤ 7302250) :
    W p l e room_1 s m #[Value.ref b] below meth c s.heap [] 0 0 (lw_Z below #[Value.ref b] s) (entryFrame m ([Value.ref b] : List Value).toArray 4) := by
  obtain ⟨hx, hb, hr, hml, hown, hts, hX, hbl, hlocks, hgv⟩ := id C0
  obtain ⟨sA, hE⟩ := st_EV hts hgv hX hbl hL
  obtain ⟨D, hK⟩ := st_K hts
  have hA : ∀ q : Nat, s.heap.size ≤ q → (fun q : Nat => s.heap.size ≤ q) q := fun _ h => h
  have C : Cx p s m #[Value.ref b] meth c cL_law (fun q => s.heap.size ≤ q) iL_law := ⟨hx, hb, hml, hown, fun w hw => hts w (tb_good w hw).1, hA, fun z => (by cases z), hlocks⟩
  have hW : WR [] D (fun q => s.heap.size ≤ q) sA b h_0 s s.heap [] [] := ⟨hK, fun k q h => by simp at h, ⟨fun i j p q h => by simp at h, fun k q h => by simp at h⟩, rfl, fun a _ => rfl, fun k q e h => by simp at h, va_X2.rf⟩
  rw [lg_entry_eq]
  refine sim_all n d iL_law 0 (m_ent 4 [.inr (.inr (-2))]) [] h_0 _ hrun hok p e room_1 s m #[Value.ref b] below meth c (lw_Z below #[Value.ref b] s) cL_law [] D (fun q => s.heap.size ≤ q) sA b 0 0 C kL_law_v hE (by show d ≤ 2048; omega) (by show 64 * d ≤ 84000; omega) (by show hf.1.1 ≤ 0 + 600000; omega) (by show hf.1.2.1 ≤ 0 + 7302250; omega) ?_ s.heap [] 0 0 [] [] _ [] hW va_S.rf rfl rfl (RLo.ent (as := [.inr (.inr (-2))]) (aR := [.ref b]) ⟨Or.inr (Or.inl ⟨rfl, rfl⟩), trivial⟩ (by decide)) trivial
  intro pc ls st h' v t hRt hfin H locs cells slots ws' tys' lsR stR hW' hS' hc' hs' hL' hSt
  dsimp only at hW' hc' hs' hL' hSt
  have e1 : hf.1.1 = h'.1.1 := by rw [(Prod.mk.inj hfin).2]; rfl
  have e2 : hf.1.2.1 = h'.1.2.1 := by rw [(Prod.mk.inj hfin).2]; rfl
  have ev := (Prod.mk.inj hfin).1
  rcases hRt with ⟨hdg, rfl, rfl, hq⟩ | ⟨hdg, x, rfl, rfl, hq⟩ | ⟨hdg, x, rfl, rfl, hq⟩ | ⟨hdg, x, rfl, rfl, hq⟩
  · cases ev
  · have hx1 : x = 1 := by cases ev; rfl
    subst hx1
    obtain ⟨w, r1, rfl, hw, h1⟩ := RS.cons hSt
    have := RS.nil h1
    subst this
    obtain ⟨nx, rfl, hnx⟩ := hw.int
    have : nx = 1 := Int32.toInt_inj.mp (by rw [hnx]; rfl)
    subst this
    refine va_forget (fun q hq => hS'.2.2 q hq) (W.widen (k := 600000) (n := 7302250) (by omega) (by omega) ?_)
    exact lw_ret hx hb hr hlocks hdg
  · cases ev
  · cases ev
