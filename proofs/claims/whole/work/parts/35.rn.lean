/-! RUNS OF THE SMALL MACHINE, by blocks: what is known of the locals alone -/
abbrev LV : Type := List (Nat × MV)
abbrev SF : Type := Nat × LV × List MV × MH
def m_all : List Prop → Prop
  | [] => True
  | c :: r => c ∧ m_all r
noncomputable def gd {α : Type} (cs : List Prop) (a : Option α) : Option α := @ite _ (m_all cs) (Classical.propDecidable _) a none
theorem gd_of {α : Type} {cs : List Prop} {a : Option α} {r : α} (h : gd cs a = some r) : m_all cs ∧ a = some r := by
  unfold gd at h
  split at h
  · exact ⟨by assumption, h⟩
  · cases h
theorem gd_nil {α : Type} {a : Option α} : gd [] a = a := if_pos trivial
theorem gd_cons {α : Type} {c : Prop} {cs : List Prop} {a : Option α} (h : c) : gd (c :: cs) a = gd cs a := by
  unfold gd
  by_cases hc : m_all cs
  · rw [if_pos (show m_all (c :: cs) from ⟨h, hc⟩), if_pos hc]
  · rw [if_neg (fun z : m_all (c :: cs) => hc z.2), if_neg hc]
theorem gd_all {α : Type} {cs : List Prop} {a : Option α} (h : m_all cs) : gd cs a = a := if_pos h
def bd {α : Type} (o : Option (Int × MH)) (f : Int → MH → Option α) : Option α := match o with
  | some r => f r.1 r.2
  | none => none
def bv {α : Type} (o : Option MH) (f : MH → Option α) : Option α := match o with
  | some h => f h
  | none => none
theorem bd_some {α : Type} {v : Int} {h : MH} {f : Int → MH → Option α} : bd (some (v, h)) f = f v h := rfl
theorem bv_some {α : Type} {h : MH} {f : MH → Option α} : bv (some h) f = f h := rfl
theorem bd_of {α : Type} {o : Option (Int × MH)} {f : Int → MH → Option α} {r : α} (h : bd o f = some r) : ∃ v h1, o = some (v, h1) ∧ f v h1 = some r := by
  cases o with
  | none => cases h
  | some p => exact ⟨p.1, p.2, rfl, h⟩
theorem bv_of {α : Type} {o : Option MH} {f : MH → Option α} {r : α} (h : bv o f = some r) : ∃ h1, o = some h1 ∧ f h1 = some r := by
  cases o with
  | none => cases h
  | some p => exact ⟨p, rfl, h⟩
theorem it_of {α : Type} {c : Prop} [Decidable c] {a b : Option α} {r : α} (h : (if c then a else b) = some r) : (c ∧ a = some r) ∨ (¬ c ∧ b = some r) := by
  by_cases hc : c
  · rw [if_pos hc] at h; exact Or.inl ⟨hc, h⟩
  · rw [if_neg hc] at h; exact Or.inr ⟨hc, h⟩
/-- a join: what follows, and the ways to it -/
def jn {α β : Type} (k : α) (f : α → β) : β := f k
theorem jn_of {α β : Type} {k : α} {f : α → Option β} {r : β} (h : jn k f = some r) : f k = some r := h
/-! what an instruction asks of the heap -/
def GK (h : MH) (a : Int) (ci : Nat) : Prop := m_kd h a = 100 + (ci : Int)
def GI (h : MH) (a k i : Int) : Prop := 0 ≤ a ∧ m_kd h a = k ∧ 0 ≤ i ∧ i < m_ln h a
def GB (h : MH) (a i : Int) : Prop := (m_kd h a = 3 ∨ m_kd h a = 4) ∧ 0 ≤ i ∧ i < m_ln h a
def GA (h : MH) (a i : Int) : Prop := (5 ≤ m_kd h a ∧ m_kd h a ≤ 8) ∧ 0 ≤ i ∧ i < m_ln h a
def GL (h : MH) (a : Int) : Prop := 0 ≤ a ∧ 1 ≤ m_kd h a ∧ m_kd h a ≤ 8
def GS (h : MH) (a i x : Int) : Prop := (m_kd h a = 5 ∧ m_kd h x = 105 ∨ m_kd h a = 6 ∧ m_kd h x = 102 ∨ m_kd h a = 7 ∧ m_kd h x = 110) ∧ 0 ≤ i ∧ i < m_ln h a
def GN (n : Int) : Prop := 0 ≤ n ∧ n ≤ 100000
def GC (h : MH) (a i b j n : Int) : Prop := m_kd h a = 1 ∧ m_kd h b = 1 ∧ 0 ≤ i ∧ 0 ≤ j ∧ 0 ≤ n ∧ i + n ≤ m_ln h a ∧ j + n ≤ m_ln h b
def GT (x : Int) : Prop := x = 0 ∨ x = 1
def m_bst (h : MH) (a x : Int) : Int := if m_kd h a = 3 then m_i2b x else m_band x 1
/-! locals that are known -/
def m_del1 (j : Nat) : LV → LV
  | [] => []
  | q :: r => bif Nat.beq q.1 j then m_del1 j r else q :: m_del1 j r
def m_kl (lv : LV) (i : Nat) : LV := match i with
  | 0 => lv
  | j + 1 => match m_l lv j with
    | some (.inr (.inl _)) => m_del1 j lv
    | _ => lv
def m_put (lv : LV) (i : Nat) (v : MV) : LV := (i, v) :: m_del1 i (m_kl lv i)
def m_pu2 (lv : LV) (i : Nat) (v : MV) : LV := (i, v) :: m_del1 (i + 1) (m_del1 i (m_kl lv i))
theorem nb_t {a b : Nat} (h : a = b) : Nat.beq a b = true := by subst h; exact Nat.beq_refl a
theorem nb_f {a b : Nat} (h : a ≠ b) : Nat.beq a b = false := by
  cases hb : Nat.beq a b with
  | true => exact absurd (Nat.eq_of_beq_eq_true hb) h
  | false => rfl
theorem m_l_cons {q : Nat × MV} {r : LV} {i : Nat} : m_l (q :: r) i = if q.1 = i then some q.2 else m_l r i := by
  show (bif Nat.beq q.1 i then some q.2 else m_l r i) = _
  by_cases h : q.1 = i
  · rw [if_pos h, nb_t h]; rfl
  · rw [if_neg h, nb_f h]; rfl
theorem m_l_del1 {j i : Nat} {v : MV} : ∀ {lv : LV}, m_l (m_del1 j lv) i = some v → m_l lv i = some v ∧ i ≠ j
  | [], h => by cases h
  | q :: r, h => by
    unfold m_del1 at h
    by_cases hb : q.1 = j
    · rw [nb_t hb] at h
      obtain ⟨h1, h2⟩ := m_l_del1 (lv := r) h
      exact ⟨by rw [m_l_cons, if_neg (by omega)]; exact h1, h2⟩
    · rw [nb_f hb] at h
      have h : m_l (q :: m_del1 j r) i = some v := h
      rw [m_l_cons] at h ⊢
      by_cases hi : q.1 = i
      · rw [if_pos hi] at h ⊢
        exact ⟨h, by omega⟩
      · rw [if_neg hi] at h ⊢
        exact m_l_del1 (lv := r) h
theorem m_st_put {ls : ML} {lv : LV} {i : Nat} {v : MV} (hi : i < ls.length) (H : ∀ (k : Nat) (w : MV), m_l lv k = some w → m_gl ls k = some w) : ∀ (k : Nat) (w : MV), m_l (m_put lv i v) k = some w → m_gl (m_st ls i v) k = some w := by
  intro k w h
  unfold m_put at h
  rw [m_l_cons] at h
  by_cases hk : i = k
  · subst hk
    rw [if_pos rfl] at h
    cases h
    cases i with
    | zero =>
      show m_gl (ls.set 0 (some v)) 0 = some v
      rw [m_gl_set, if_pos ⟨rfl, hi⟩]
    | succ j =>
      show m_gl ((m_kill ls j).set (j + 1) (some v)) (j + 1) = some v
      rw [m_gl_set, if_pos ⟨rfl, by rw [m_kill_len]; exact hi⟩]
  · rw [if_neg hk] at h
    obtain ⟨h1, h2⟩ := m_l_del1 h
    cases i with
    | zero =>
      show m_gl (ls.set 0 (some v)) k = some w
      rw [m_gl_set, if_neg (fun z => hk z.1)]
      exact H k w h1
    | succ j =>
      show m_gl ((m_kill ls j).set (j + 1) (some v)) k = some w
      rw [m_gl_set, if_neg (fun z => hk z.1)]
      have h1 : m_l (match m_l lv j with | some (.inr (.inl _)) => m_del1 j lv | _ => lv) k = some w := h1
      unfold m_kill
      split
      · rename_i z hz
        rw [m_gl_set]
        split at h1
        · obtain ⟨h3, h4⟩ := m_l_del1 h1
          rw [if_neg (fun y => h4 y.1.symm)]
          exact H k w h3
        · rename_i hno
          by_cases hkj : j = k
          · subst hkj
            have h5 := H j w h1
            rw [hz] at h5
            cases h5
            exact absurd h1 (hno z)
          · rw [if_neg (fun y => hkj y.1)]
            exact H k w h1
      · split at h1
        · exact H k w (m_l_del1 h1).1
        · exact H k w h1
theorem m_st_pu2 {ls : ML} {lv : LV} {i : Nat} {v : MV} (hi : i + 1 < ls.length) (H : ∀ (k : Nat) (w : MV), m_l lv k = some w → m_gl ls k = some w) : ∀ (k : Nat) (w : MV), m_l (m_pu2 lv i v) k = some w → m_gl ((m_st ls i v).set (i + 1) none) k = some w := by
  intro k w h
  unfold m_pu2 at h
  rw [m_l_cons] at h
  have hk1 : k ≠ i + 1 ∧ m_l (m_put lv i v) k = some w := by
    by_cases hk : i = k
    · rw [if_pos hk] at h
      exact ⟨by omega, by unfold m_put; rw [m_l_cons, if_pos hk]; exact h⟩
    · rw [if_neg hk] at h
      obtain ⟨h1, h2⟩ := m_l_del1 h
      exact ⟨h2, by unfold m_put; rw [m_l_cons, if_neg hk]; exact h1⟩
  rw [m_gl_set, if_neg (fun z => hk1.1 z.1.symm)]
  exact m_st_put (by omega) H k w hk1.2
/-! one instruction, as what is known changes by it, and what it asks -/
def m_sl1 (ty len i pc : Nat) (lv : LV) (st : List MV) (h : MH) : Option (SF × List Prop) := match m_l lv i with
  | some v => match v, ty with
    | .inl x, 0 => some ((pc + len, lv, .inl x :: st, h), [])
    | .inr (.inl x), 1 => some ((pc + len, lv, .inr (.inl x) :: st, h), [])
    | .inr (.inr x), 2 => some ((pc + len, lv, .inr (.inr x) :: st, h), [])
    | _, _ => none
  | none => none
def m_ss1 (ty len i pc : Nat) (nL : Nat) (lv : LV) (st : List MV) (h : MH) : Option (SF × List Prop) := match st with
  | v :: r => match v, ty with
    | .inl x, 0 => bif Nat.blt i nL then some ((pc + len, m_put lv i (.inl x), r, h), []) else none
    | .inr (.inl x), 1 => bif Nat.blt (i + 1) nL then some ((pc + len, m_pu2 lv i (.inr (.inl x)), r, h), []) else none
    | .inr (.inr x), 2 => bif Nat.blt i nL then some ((pc + len, m_put lv i (.inr (.inr x)), r, h), []) else none
    | _, _ => none
  | [] => none
def m_s2 (f : Int → Int → Int) (g : Int → Int → List Prop) (pc : Nat) (lv : LV) (st : List MV) (h : MH) : Option (SF × List Prop) := match st with
  | .inl y :: .inl x :: r => some ((pc + 1, lv, .inl (f x y) :: r, h), g x y)
  | _ => none
def m_s3 (f : Int → Int → Int) (g : Int → Int → List Prop) (pc : Nat) (lv : LV) (st : List MV) (h : MH) : Option (SF × List Prop) := match st with
  | .inr (.inl y) :: .inr (.inl x) :: r => some ((pc + 1, lv, .inr (.inl (f x y)) :: r, h), g x y)
  | _ => none
def g_no : Int → Int → List Prop := fun _ _ => []
def g_nz : Int → Int → List Prop := fun _ y => [y ≠ 0]
/-- constants are small enough -/
def m_cok : Instr → Bool
  | .iconst n => decide (-1 ≤ n) && decide (n ≤ 5)
  | .bipush n => decide (-128 ≤ n) && decide (n ≤ 127)
  | .sipush n => decide (-32768 ≤ n) && decide (n ≤ 32767)
  | _ => true
def m_sx (P : MP) (ft : Nat → List Nat) (q : MI) (op : Instr) (pc : Nat) (lv : LV) (st : List MV) (h : MH) : Option (SF × List Prop) := match op with
  | .iconst n => some ((pc + 1, lv, .inl n :: st, h), [])
  | .bipush n => some ((pc + 2, lv, .inl n :: st, h), [])
  | .sipush n => some ((pc + 3, lv, .inl n :: st, h), [])
  | .lconst n => some ((pc + 1, lv, .inr (.inl ((n : Nat) : Int)) :: st, h), [])
  | .aconst_null => some ((pc + 1, lv, .inr (.inr (-1)) :: st, h), [])
  | .iload_n k => m_sl1 0 1 k pc lv st h
  | .iload i => m_sl1 0 2 i pc lv st h
  | .lload_n k => m_sl1 1 1 k pc lv st h
  | .lload i => m_sl1 1 2 i pc lv st h
  | .aload_n k => m_sl1 2 1 k pc lv st h
  | .aload i => m_sl1 2 2 i pc lv st h
  | .istore_n k => m_ss1 0 1 k pc q.2.2.2.1 lv st h
  | .istore i => m_ss1 0 2 i pc q.2.2.2.1 lv st h
  | .lstore_n k => m_ss1 1 1 k pc q.2.2.2.1 lv st h
  | .lstore i => m_ss1 1 2 i pc q.2.2.2.1 lv st h
  | .astore_n k => m_ss1 2 1 k pc q.2.2.2.1 lv st h
  | .astore i => m_ss1 2 2 i pc q.2.2.2.1 lv st h
  | .iinc i n => match m_l lv i with
    | some (.inl x) => bif Nat.blt i q.2.2.2.1 then some ((pc + 3, m_put lv i (.inl (m_w32 (x + n))), st, h), []) else none
    | _ => none
  | .iadd => m_s2 (fun x y => m_w32 (x + y)) g_no pc lv st h
  | .isub => m_s2 (fun x y => m_w32 (x - y)) g_no pc lv st h
  | .imul => m_s2 (fun x y => m_w32 (x * y)) g_no pc lv st h
  | .idiv => m_s2 (fun x y => m_w32 (x.tdiv y)) g_nz pc lv st h
  | .irem => m_s2 (fun x y => x.tmod y) g_nz pc lv st h
  | .iand => m_s2 m_band g_no pc lv st h
  | .ior => m_s2 m_bor g_no pc lv st h
  | .ixor => m_s2 m_bxor g_no pc lv st h
  | .ishl => m_s2 m_shl g_no pc lv st h
  | .ishr => m_s2 m_shr g_no pc lv st h
  | .iushr => m_s2 m_ushr g_no pc lv st h
  | .ladd => m_s3 (fun x y => m_w64 (x + y)) g_no pc lv st h
  | .lsub => m_s3 (fun x y => m_w64 (x - y)) g_no pc lv st h
  | .lmul => m_s3 (fun x y => m_w64 (x * y)) g_no pc lv st h
  | .ldiv => m_s3 (fun x y => m_w64 (x.tdiv y)) g_nz pc lv st h
  | .lrem => m_s3 (fun x y => x.tmod y) g_nz pc lv st h
  | .land => m_s3 m_land g_no pc lv st h
  | .lor => m_s3 m_lor g_no pc lv st h
  | .lshl => match st with
    | .inl y :: .inr (.inl x) :: r => some ((pc + 1, lv, .inr (.inl (m_lshl x y)) :: r, h), [])
    | _ => none
  | .lcmp => match st with
    | .inr (.inl y) :: .inr (.inl x) :: r => some ((pc + 1, lv, .inl (m_lcmp x y) :: r, h), [])
    | _ => none
  | .i2l => match st with
    | .inl x :: r => some ((pc + 1, lv, .inr (.inl x) :: r, h), [])
    | _ => none
  | .l2i => match st with
    | .inr (.inl x) :: r => some ((pc + 1, lv, .inl (m_w32 x) :: r, h), [])
    | _ => none
  | .i2b => match st with
    | .inl x :: r => some ((pc + 1, lv, .inl (m_i2b x) :: r, h), [])
    | _ => none
  | .dup => match st with
    | .inl x :: r => some ((pc + 1, lv, .inl x :: .inl x :: r, h), [])
    | .inr (.inr x) :: r => some ((pc + 1, lv, .inr (.inr x) :: .inr (.inr x) :: r, h), [])
    | _ => none
  | .dup2 => match st with
    | .inl y :: .inr (.inr x) :: r => some ((pc + 1, lv, .inl y :: .inr (.inr x) :: .inl y :: .inr (.inr x) :: r, h), [])
    | _ => none
  | .pop => match st with
    | .inl _ :: r => some ((pc + 1, lv, r, h), [])
    | .inr (.inr _) :: r => some ((pc + 1, lv, r, h), [])
    | _ => none
  | .getfield i => match st, m_l P.1 i with
    | .inr (.inr a) :: r, some (ci, k, ty, _) => some ((pc + 3, lv, m_mk ty (m_rd h a k) :: r, h), [GK h a ci])
    | _, _ => none
  | .putfield i => match st, m_l P.1 i with
    | .inl x :: .inr (.inr a) :: r, some (ci, k, 0, fn) => bif (!fn || (q.2.2.2.2.1 && Nat.beq q.1 ci)) then some ((pc + 3, lv, r, m_wr h a k x), [GK h a ci]) else none
    | .inr (.inl x) :: .inr (.inr a) :: r, some (ci, k, 1, fn) => bif (!fn || (q.2.2.2.2.1 && Nat.beq q.1 ci)) then some ((pc + 3, lv, r, m_wr h a k x), [GK h a ci]) else none
    | .inr (.inr x) :: .inr (.inr a) :: r, some (ci, k, 2, fn) => bif (!fn || (q.2.2.2.2.1 && Nat.beq q.1 ci)) then some ((pc + 3, lv, r, m_wr h a k x), [GK h a ci]) else none
    | _, _ => none
  | .ldc i => match m_l P.2.1 i with
    | some (.inl x) => some ((pc + 2, lv, .inl x :: st, h), [])
    | some (.inr (.inr a)) => some ((pc + 2, lv, .inr (.inr a) :: st, h), [])
    | _ => none
  | .ldc_w i => match m_l P.2.1 i with
    | some (.inl x) => some ((pc + 3, lv, .inl x :: st, h), [])
    | _ => none
  | .ldc2_w i => match m_l P.2.1 i with
    | some (.inr (.inl x)) => some ((pc + 3, lv, .inr (.inl x) :: st, h), [])
    | _ => none
  | .arraylength => match st with
    | .inr (.inr a) :: r => some ((pc + 1, lv, .inl (m_ln h a) :: r, h), [GL h a])
    | _ => none
  | .iaload => match st with
    | .inl i :: .inr (.inr a) :: r => some ((pc + 1, lv, .inl (m_rd h a i) :: r, h), [GI h a 1 i])
    | _ => none
  | .laload => match st with
    | .inl i :: .inr (.inr a) :: r => some ((pc + 1, lv, .inr (.inl (m_rd h a i)) :: r, h), [GI h a 2 i])
    | _ => none
  | .baload => match st with
    | .inl i :: .inr (.inr a) :: r => some ((pc + 1, lv, .inl (m_rd h a i) :: r, h), [GB h a i])
    | _ => none
  | .aaload => match st with
    | .inl i :: .inr (.inr a) :: r => some ((pc + 1, lv, .inr (.inr (m_rd h a i)) :: r, h), [GA h a i])
    | _ => none
  | .iastore => match st with
    | .inl x :: .inl i :: .inr (.inr a) :: r => some ((pc + 1, lv, r, m_wr h a i x), [GI h a 1 i])
    | _ => none
  | .lastore => match st with
    | .inr (.inl x) :: .inl i :: .inr (.inr a) :: r => some ((pc + 1, lv, r, m_wr h a i x), [GI h a 2 i])
    | _ => none
  | .bastore => match st with
    | .inl x :: .inl i :: .inr (.inr a) :: r => some ((pc + 1, lv, r, m_wr h a i (m_bst h a x)), [GB h a i])
    | _ => none
  | .aastore => match st with
    | .inr (.inr x) :: .inl i :: .inr (.inr a) :: r => some ((pc + 1, lv, r, m_wr h a i x), [GS h a i x])
    | _ => none
  | .newarray t => match st with
    | .inl n :: r => bif decide (1 ≤ m_kof t) then some ((pc + 2, lv, .inr (.inr h.1.1) :: r, m_al h (m_kof t) n n.toNat (fun _ => 0)), [GN n]) else none
    | _ => none
  | .new i => match m_l P.2.2 i with
    | some k => bif Nat.ble 100 k then some ((pc + 3, lv, .inr (.inr h.1.1) :: st, m_al h k 0 (ft (k - 100)).length (fun j => bif Nat.beq ((ft (k - 100)).getD j.toNat 0) 2 then -1 else 0)), []) else none
    | none => none
  | _ => none
