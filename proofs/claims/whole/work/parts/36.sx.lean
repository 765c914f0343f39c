theorem chk_t {t : Bool} {h : MH} (ht : t = true) : m_chk t h = h := by
  subst ht
  rfl
theorem some_q {α : Type} {a b : α} (h : some a = some b) : a = b := Option.some.inj h
section Sx
variable {P : MP} {ft : Nat → List Nat} {q : MI} {xs : Int → Int} {L : Int} {pc pc' : Nat} {lv lv' : LV} {st st' : List MV} {h h' : MH} {cs : List Prop} {ls : ML}
def Kn (lv : LV) (ls : ML) : Prop := ∀ (k : Nat) (w : MV), m_l lv k = some w → m_gl ls k = some w
theorem sx_ld {ty len i : Nat} (hs : m_sl1 ty len i pc lv st h = some ((pc', lv', st', h'), cs)) (H : Kn lv ls) : lv' = lv ∧ m_ld ty len i pc ls st h = (pc', ls, st', h') := by
  unfold m_sl1 at hs
  unfold m_ld
  split at hs
  · rename_i v hv
    rw [H _ _ hv]
    split at hs
    · cases hs; exact ⟨rfl, rfl⟩
    · cases hs; exact ⟨rfl, rfl⟩
    · cases hs; exact ⟨rfl, rfl⟩
    · cases hs
  · cases hs
theorem sx_st {ty len i : Nat} (hs : m_ss1 ty len i pc q.2.2.2.1 lv st h = some ((pc', lv', st', h'), cs)) (hl : ls.length = q.2.2.2.1) (H : Kn lv ls) : ∃ ls' : ML, ls'.length = q.2.2.2.1 ∧ Kn lv' ls' ∧ m_sto ty len i pc ls st h = (pc', ls', st', h') := by
  unfold m_ss1 at hs
  unfold m_sto
  split at hs
  · rename_i v r
    split at hs
    · cases hb : Nat.blt i q.2.2.2.1 with
      | false => rw [hb] at hs; cases hs
      | true =>
        rw [hb] at hs
        cases hs
        have hi := Nat.blt_eq.mp hb
        exact ⟨_, by rw [m_st_len]; exact hl, m_st_put (by omega) H, by show (_, _, _, m_chk _ _) = _; rw [chk_t (Nat.blt_eq.mpr (by omega))]⟩
    · cases hb : Nat.blt (i + 1) q.2.2.2.1 with
      | false => rw [hb] at hs; cases hs
      | true =>
        rw [hb] at hs
        cases hs
        have hi := Nat.blt_eq.mp hb
        exact ⟨_, by rw [List.length_set, m_st_len]; exact hl, m_st_pu2 (by omega) H, by show (_, _, _, m_chk _ _) = _; rw [chk_t (Nat.blt_eq.mpr (by omega))]⟩
    · cases hb : Nat.blt i q.2.2.2.1 with
      | false => rw [hb] at hs; cases hs
      | true =>
        rw [hb] at hs
        cases hs
        have hi := Nat.blt_eq.mp hb
        exact ⟨_, by rw [m_st_len]; exact hl, m_st_put (by omega) H, by show (_, _, _, m_chk _ _) = _; rw [chk_t (Nat.blt_eq.mpr (by omega))]⟩
    · cases hs
  · cases hs
theorem sx_2 {f : Int → Int → Int} {g : Int → Int → List Prop} {g' : Int → Int → Bool} (hs : m_s2 f g pc lv st h = some ((pc', lv', st', h'), cs)) (hc : m_all cs) (hg : ∀ x y, m_all (g x y) → g' x y = true) : lv' = lv ∧ m_ii f g' pc ls st h = (pc', ls, st', h') := by
  unfold m_s2 at hs
  unfold m_ii
  split at hs
  · cases hs
    exact ⟨rfl, by show (_, _, _, m_chk _ _) = _; rw [chk_t (hg _ _ hc)]⟩
  · cases hs
theorem sx_3 {f : Int → Int → Int} {g : Int → Int → List Prop} {g' : Int → Int → Bool} (hs : m_s3 f g pc lv st h = some ((pc', lv', st', h'), cs)) (hc : m_all cs) (hg : ∀ x y, m_all (g x y) → g' x y = true) : lv' = lv ∧ m_ll f g' pc ls st h = (pc', ls, st', h') := by
  unfold m_s3 at hs
  unfold m_ll
  split at hs
  · cases hs
    exact ⟨rfl, by show (_, _, _, m_chk _ _) = _; rw [chk_t (hg _ _ hc)]⟩
  · cases hs
theorem gg_no : ∀ x y : Int, m_all (g_no x y) → m_tt x y = true := fun _ _ _ => rfl
theorem gg_nz : ∀ x y : Int, m_all (g_nz x y) → m_nz x y = true := fun x y hz => by
  have : y ≠ 0 := hz.1
  simp [m_nz, this]
theorem GI.ok {a k i : Int} (hg : GI h a k i) : m_in h a k i = true ∧ a ≠ -2 := by
  obtain ⟨h1, h2, h3, h4⟩ := hg
  exact ⟨by simp [m_in, h2, h3, h4], by omega⟩
theorem GK.ok {a : Int} {ci : Nat} (hg : GK h a ci) : m_is h a (100 + (ci : Int)) = true := by
  unfold GK at hg
  simp [m_is, hg]
/-- what an instruction does, by what is known -/
def SxR (P : MP) (ft : Nat → List Nat) (q : MI) (xs : Int → Int) (L : Int) (op : Instr) (pc : Nat) (ls : ML) (st : List MV) (h : MH) (pc' : Nat) (lv' : LV) (st' : List MV) (h' : MH) : Prop := ∃ ls' : ML, ls'.length = q.2.2.2.1 ∧ Kn lv' ls' ∧ m_ex P ft q xs L op pc ls st h = (pc', ls', st', h')
theorem SxR.of {op : Instr} (hl : ls.length = q.2.2.2.1) (H : Kn lv ls) (e1 : lv' = lv) (e2 : m_ex P ft q xs L op pc ls st h = (pc', ls, st', h')) : SxR P ft q xs L op pc ls st h pc' lv' st' h' := ⟨ls, hl, by rw [e1]; exact H, e2⟩
theorem m_nx_chk {k : Nat} {t : Bool} {st2 : List MV} {h2 : MH} (ht : t = true) : m_nx pc k ls st2 (m_chk t h2) = (pc + k, ls, st2, h2) := by
  rw [chk_t ht]
  rfl
set_option maxHeartbeats 4000000 in
theorem m_sx_ok {op : Instr} (hs : m_sx P ft q op pc lv st h = some ((pc', lv', st', h'), cs)) (hc : m_all cs) (hk : m_cok op = true) (hl : ls.length = q.2.2.2.1) (H : Kn lv ls) : SxR P ft q xs L op pc ls st h pc' lv' st' h' := by
  cases op
  case iconst n =>
    simp only [m_sx] at hs
    cases hs
    exact SxR.of hl H rfl (m_nx_chk hk)
  case bipush n =>
    simp only [m_sx] at hs
    cases hs
    exact SxR.of hl H rfl (m_nx_chk hk)
  case sipush n =>
    simp only [m_sx] at hs
    cases hs
    exact SxR.of hl H rfl (m_nx_chk hk)
  case lconst n =>
    simp only [m_sx] at hs
    cases hs
    exact SxR.of hl H rfl rfl
  case aconst_null =>
    simp only [m_sx] at hs
    cases hs
    exact SxR.of hl H rfl rfl
  case iload_n k =>
    obtain ⟨e1, e2⟩ := sx_ld (ls := ls) hs H
    exact SxR.of hl H e1 e2
  case lload_n k =>
    obtain ⟨e1, e2⟩ := sx_ld (ls := ls) hs H
    exact SxR.of hl H e1 e2
  case aload_n k =>
    obtain ⟨e1, e2⟩ := sx_ld (ls := ls) hs H
    exact SxR.of hl H e1 e2
  case iload k =>
    obtain ⟨e1, e2⟩ := sx_ld (ls := ls) hs H
    exact SxR.of hl H e1 e2
  case lload k =>
    obtain ⟨e1, e2⟩ := sx_ld (ls := ls) hs H
    exact SxR.of hl H e1 e2
  case aload k =>
    obtain ⟨e1, e2⟩ := sx_ld (ls := ls) hs H
    exact SxR.of hl H e1 e2
  case istore_n k =>
    exact sx_st (q := q) hs hl H
  case lstore_n k =>
    exact sx_st (q := q) hs hl H
  case astore_n k =>
    exact sx_st (q := q) hs hl H
  case istore k =>
    exact sx_st (q := q) hs hl H
  case lstore k =>
    exact sx_st (q := q) hs hl H
  case astore k =>
    exact sx_st (q := q) hs hl H
  case iinc i n =>
    simp only [m_sx] at hs
    split at hs
    · rename_i x hx
      cases hb : Nat.blt i q.2.2.2.1 with
      | false => rw [hb] at hs; cases hs
      | true =>
        rw [hb] at hs
        cases hs
        have hi := Nat.blt_eq.mp hb
        refine ⟨_, by rw [m_st_len]; exact hl, m_st_put (v := .inl (m_w32 (x + n))) (i := i) (by omega) H, ?_⟩
        simp only [m_ex]
        rw [H _ _ hx]
        show (_, _, _, m_chk _ _) = _
        rw [chk_t (Nat.blt_eq.mpr (by omega))]
    · cases hs
  case iadd =>
    obtain ⟨e1, e2⟩ := sx_2 (ls := ls) hs hc gg_no
    exact SxR.of hl H e1 e2
  case isub =>
    obtain ⟨e1, e2⟩ := sx_2 (ls := ls) hs hc gg_no
    exact SxR.of hl H e1 e2
  case imul =>
    obtain ⟨e1, e2⟩ := sx_2 (ls := ls) hs hc gg_no
    exact SxR.of hl H e1 e2
  case idiv =>
    obtain ⟨e1, e2⟩ := sx_2 (ls := ls) hs hc gg_nz
    exact SxR.of hl H e1 e2
  case irem =>
    obtain ⟨e1, e2⟩ := sx_2 (ls := ls) hs hc gg_nz
    exact SxR.of hl H e1 e2
  case iand =>
    obtain ⟨e1, e2⟩ := sx_2 (ls := ls) hs hc gg_no
    exact SxR.of hl H e1 e2
  case ior =>
    obtain ⟨e1, e2⟩ := sx_2 (ls := ls) hs hc gg_no
    exact SxR.of hl H e1 e2
  case ixor =>
    obtain ⟨e1, e2⟩ := sx_2 (ls := ls) hs hc gg_no
    exact SxR.of hl H e1 e2
  case ishl =>
    obtain ⟨e1, e2⟩ := sx_2 (ls := ls) hs hc gg_no
    exact SxR.of hl H e1 e2
  case ishr =>
    obtain ⟨e1, e2⟩ := sx_2 (ls := ls) hs hc gg_no
    exact SxR.of hl H e1 e2
  case iushr =>
    obtain ⟨e1, e2⟩ := sx_2 (ls := ls) hs hc gg_no
    exact SxR.of hl H e1 e2
  case ladd =>
    obtain ⟨e1, e2⟩ := sx_3 (ls := ls) hs hc gg_no
    exact SxR.of hl H e1 e2
  case lsub =>
    obtain ⟨e1, e2⟩ := sx_3 (ls := ls) hs hc gg_no
    exact SxR.of hl H e1 e2
  case lmul =>
    obtain ⟨e1, e2⟩ := sx_3 (ls := ls) hs hc gg_no
    exact SxR.of hl H e1 e2
  case ldiv =>
    obtain ⟨e1, e2⟩ := sx_3 (ls := ls) hs hc gg_nz
    exact SxR.of hl H e1 e2
  case lrem =>
    obtain ⟨e1, e2⟩ := sx_3 (ls := ls) hs hc gg_nz
    exact SxR.of hl H e1 e2
  case land =>
    obtain ⟨e1, e2⟩ := sx_3 (ls := ls) hs hc gg_no
    exact SxR.of hl H e1 e2
  case lor =>
    obtain ⟨e1, e2⟩ := sx_3 (ls := ls) hs hc gg_no
    exact SxR.of hl H e1 e2
  case lshl =>
    simp only [m_sx] at hs
    split at hs
    · cases hs; exact SxR.of hl H rfl rfl
    · cases hs
  case lcmp =>
    simp only [m_sx] at hs
    split at hs
    · cases hs; exact SxR.of hl H rfl rfl
    · cases hs
  case i2l =>
    simp only [m_sx] at hs
    split at hs
    · cases hs; exact SxR.of hl H rfl rfl
    · cases hs
  case l2i =>
    simp only [m_sx] at hs
    split at hs
    · cases hs; exact SxR.of hl H rfl rfl
    · cases hs
  case i2b =>
    simp only [m_sx] at hs
    split at hs
    · cases hs; exact SxR.of hl H rfl rfl
    · cases hs
  case dup2 =>
    simp only [m_sx] at hs
    split at hs
    · cases hs; exact SxR.of hl H rfl rfl
    · cases hs
  case dup =>
    simp only [m_sx] at hs
    split at hs
    · cases hs; exact SxR.of hl H rfl rfl
    · cases hs; exact SxR.of hl H rfl rfl
    · cases hs
  case pop =>
    simp only [m_sx] at hs
    split at hs
    · cases hs; exact SxR.of hl H rfl rfl
    · cases hs; exact SxR.of hl H rfl rfl
    · cases hs
  case getfield i =>
    simp only [m_sx] at hs
    split at hs
    · rename_i a r ci k ty fn hp
      cases hs
      refine SxR.of hl H rfl ?_
      simp only [m_ex]
      rw [hp]
      exact m_nx_chk (GK.ok hc.1)
    · cases hs
  case putfield i =>
    simp only [m_sx] at hs
    split at hs
    · rename_i x a r ci k fn hp
      cases hb : (!fn || (q.2.2.2.2.1 && Nat.beq q.1 ci)) with
      | false => rw [hb] at hs; cases hs
      | true =>
        rw [hb] at hs
        cases hs
        refine SxR.of hl H rfl ?_
        simp only [m_ex]
        rw [hp]
        exact m_nx_chk (by rw [GK.ok hc.1, hb]; rfl)
    · rename_i x a r ci k fn hp
      cases hb : (!fn || (q.2.2.2.2.1 && Nat.beq q.1 ci)) with
      | false => rw [hb] at hs; cases hs
      | true =>
        rw [hb] at hs
        cases hs
        refine SxR.of hl H rfl ?_
        simp only [m_ex]
        rw [hp]
        exact m_nx_chk (by rw [GK.ok hc.1, hb]; rfl)
    · rename_i x a r ci k fn hp
      cases hb : (!fn || (q.2.2.2.2.1 && Nat.beq q.1 ci)) with
      | false => rw [hb] at hs; cases hs
      | true =>
        rw [hb] at hs
        cases hs
        refine SxR.of hl H rfl ?_
        simp only [m_ex]
        rw [hp]
        exact m_nx_chk (by rw [GK.ok hc.1, hb]; rfl)
    · cases hs
  case ldc i =>
    simp only [m_sx] at hs
    split at hs
    · rename_i x hp
      cases hs
      exact SxR.of hl H rfl (by simp only [m_ex]; rw [hp]; rfl)
    · rename_i x hp
      cases hs
      exact SxR.of hl H rfl (by simp only [m_ex]; rw [hp]; rfl)
    · cases hs
  case ldc_w i =>
    simp only [m_sx] at hs
    split at hs
    · rename_i x hp
      cases hs
      exact SxR.of hl H rfl (by simp only [m_ex]; rw [hp]; rfl)
    · cases hs
  case ldc2_w i =>
    simp only [m_sx] at hs
    split at hs
    · rename_i x hp
      cases hs
      exact SxR.of hl H rfl (by simp only [m_ex]; rw [hp]; rfl)
    · cases hs
  case arraylength =>
    simp only [m_sx] at hs
    split at hs
    · cases hs
      obtain ⟨g1, g2, g3⟩ := hc.1
      refine SxR.of hl H rfl ?_
      simp only [m_ex]
      rw [if_neg (by omega)]
      exact m_nx_chk (by simp [g2, g3])
    · cases hs
  case iaload =>
    simp only [m_sx] at hs
    split at hs
    · cases hs
      refine SxR.of hl H rfl ?_
      simp only [m_ex]
      rw [if_neg (GI.ok hc.1).2]
      exact m_nx_chk (GI.ok hc.1).1
    · cases hs
  case laload =>
    simp only [m_sx] at hs
    split at hs
    · cases hs
      refine SxR.of hl H rfl ?_
      simp only [m_ex]
      exact m_nx_chk ((GI.ok hc.1).1)
    · cases hs
  case baload =>
    simp only [m_sx] at hs
    split at hs
    · cases hs
      refine SxR.of hl H rfl ?_
      simp only [m_ex]
      exact m_nx_chk (by obtain ⟨g1 | g1, g2, g3⟩ := hc.1 <;> simp [m_in, g1, g2, g3])
    · cases hs
  case aaload =>
    simp only [m_sx] at hs
    split at hs
    · cases hs
      refine SxR.of hl H rfl ?_
      simp only [m_ex]
      exact m_nx_chk (by obtain ⟨g1, g2, g3⟩ := hc.1; simp [m_in, g2, g3]; omega)
    · cases hs
  case iastore =>
    simp only [m_sx] at hs
    split at hs
    · cases hs
      refine SxR.of hl H rfl ?_
      simp only [m_ex]
      exact m_nx_chk ((GI.ok hc.1).1)
    · cases hs
  case lastore =>
    simp only [m_sx] at hs
    split at hs
    · cases hs
      refine SxR.of hl H rfl ?_
      simp only [m_ex]
      exact m_nx_chk ((GI.ok hc.1).1)
    · cases hs
  case bastore =>
    simp only [m_sx] at hs
    split at hs
    · cases hs
      refine SxR.of hl H rfl ?_
      simp only [m_ex]
      exact m_nx_chk (by obtain ⟨g1 | g1, g2, g3⟩ := hc.1 <;> simp [m_in, g1, g2, g3])
    · cases hs
  case aastore =>
    simp only [m_sx] at hs
    split at hs
    · cases hs
      refine SxR.of hl H rfl ?_
      simp only [m_ex]
      exact m_nx_chk (by obtain ⟨⟨g1, g4⟩ | ⟨g1, g4⟩ | ⟨g1, g4⟩, g2, g3⟩ := hc.1 <;> simp [m_in, m_is, g1, g2, g3, g4])
    · cases hs
  case newarray t =>
    simp only [m_sx] at hs
    split at hs
    · rename_i n r
      cases hb : decide (1 ≤ m_kof t) with
      | false => rw [hb] at hs; cases hs
      | true =>
        rw [hb] at hs
        cases hs
        obtain ⟨⟨g1, g2⟩, -⟩ := hc
        refine SxR.of hl H rfl ?_
        simp only [m_ex]
        exact m_nx_chk (by rw [hb]; simp [m_sm, g1, g2])
    · cases hs
  case new i =>
    simp only [m_sx] at hs
    split at hs
    · rename_i k hp
      cases hb : Nat.ble 100 k with
      | false => rw [hb] at hs; cases hs
      | true =>
        rw [hb] at hs
        cases hs
        refine SxR.of hl H rfl ?_
        simp only [m_ex]
        rw [hp]
        exact m_nx_chk hb
    · cases hs
  all_goals (simp only [m_sx] at hs; cases hs)
/-- such an instruction is none that branches, calls or returns -/
theorem m_run_sx {op : Instr} {n d : Nat} (hs : m_sx P ft q op pc lv st h = some ((pc', lv', st', h'), cs)) (hop : m_lk q.2.2.2.2.2 pc = some op) : m_run xs L (n + 1) d q pc ls st h = m_run xs L n d q (m_ex (m_P q.1) m_ft q xs L op pc ls st h).1 (m_ex (m_P q.1) m_ft q xs L op pc ls st h).2.1 (m_ex (m_P q.1) m_ft q xs L op pc ls st h).2.2.1 (m_ex (m_P q.1) m_ft q xs L op pc ls st h).2.2.2 := by
  conv => lhs; unfold m_run
  rw [hop]
  cases op
  all_goals first | rfl | (simp only [m_sx] at hs; cases hs)
end Sx
