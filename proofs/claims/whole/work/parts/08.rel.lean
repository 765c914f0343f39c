/-! THE SMALL MACHINE AGAINST THE MACHINE: how a value, a row of values, the locals, a cell and the world of cells stand for one another -/
def RV (ws : va_W) (sA : Nat → Nat) (b : Nat) (x : MV) (v : Value) : Prop := match x with
  | .inl x => ∃ n : Int32, v = .int n ∧ n.toInt = x
  | .inr (.inl x) => ∃ n : Int64, v = .long n ∧ n.toInt = x
  | .inr (.inr a) => (a = -1 ∧ v = .null) ∨ (a = -2 ∧ v = .ref b) ∨ (∃ j : Nat, j < 20 ∧ a = -10 - (j : Int) ∧ v = .ref (sA j)) ∨ ∃ (k q : Nat) (e : va_E), a = (k : Int) ∧ ws[k]? = some (q, e) ∧ v = .ref q
def va_X2 (ws ws' : va_W) : Prop := ∀ (k q : Nat) (e : va_E), ws[k]? = some (q, e) → ∃ e' : va_E, ws'[k]? = some (q, e')
theorem va_X2.rf {ws : va_W} : va_X2 ws ws := fun _ _ e h => ⟨e, h⟩
theorem va_X2.set {ws : va_W} {p a : Nat} {e0 e1 : va_E} (h : ws[p]? = some (a, e0)) : va_X2 ws (ws.set p (a, e1)) := by
  intro k q e hk
  by_cases hp : k = p
  · subst hp
    rw [hk] at h
    cases h
    exact ⟨e1, by rw [List.getElem?_set_self (List.getElem?_eq_some_iff.mp hk).1]⟩
  · exact ⟨e, by rw [List.getElem?_set_ne (fun q => hp q.symm)]; exact hk⟩
theorem va_X2.push {ws w2 : va_W} : va_X2 ws (ws ++ w2) := by
  intro k q e hk
  exact ⟨e, by rw [List.getElem?_append_left (List.getElem?_eq_some_iff.mp hk).1]; exact hk⟩
theorem va_X2.tr {w1 w2 w3 : va_W} (h1 : va_X2 w1 w2) (h2 : va_X2 w2 w3) : va_X2 w1 w3 := fun k q e h => by
  obtain ⟨e2, h2'⟩ := h1 k q e h
  exact h2 k q e2 h2'
theorem RV.mono {ws ws' : va_W} {sA : Nat → Nat} {b : Nat} {x : MV} {v : Value} (hx : va_X2 ws ws') (h : RV ws sA b x v) : RV ws' sA b x v := by
  rcases x with x | x | a
  · exact h
  · exact h
  · rcases h with h | h | h | ⟨k, q, e, h1, h2, h3⟩
    · exact Or.inl h
    · exact Or.inr (Or.inl h)
    · exact Or.inr (Or.inr (Or.inl h))
    · obtain ⟨e', h'⟩ := hx k q e h2
      exact Or.inr (Or.inr (Or.inr ⟨k, q, e', h1, h', h3⟩))
def RS (ws : va_W) (sA : Nat → Nat) (b : Nat) : List MV → List Value → Prop
  | [], [] => True
  | x :: l, v :: r => RV ws sA b x v ∧ RS ws sA b l r
  | _, _ => False
theorem RS.mono {ws ws' : va_W} {sA : Nat → Nat} {b : Nat} (hx : va_X2 ws ws') : ∀ {l : List MV} {r : List Value}, RS ws sA b l r → RS ws' sA b l r
  | [], [], _ => trivial
  | x :: l, v :: r, h => ⟨h.1.mono hx, RS.mono hx h.2⟩
  | [], _ :: _, h => h.elim
  | _ :: _, [], h => h.elim
theorem RS.cons {ws : va_W} {sA : Nat → Nat} {b : Nat} {x : MV} {l : List MV} {r : List Value} (h : RS ws sA b (x :: l) r) : ∃ (v : Value) (r' : List Value), r = v :: r' ∧ RV ws sA b x v ∧ RS ws sA b l r' := by
  cases r with
  | nil => exact h.elim
  | cons v r' => exact ⟨v, r', rfl, h.1, h.2⟩
theorem RS.nil {ws : va_W} {sA : Nat → Nat} {b : Nat} {r : List Value} (h : RS ws sA b [] r) : r = [] := by
  cases r with
  | nil => rfl
  | cons v r' => exact h.elim
theorem RV.int {ws : va_W} {sA : Nat → Nat} {b : Nat} {x : Int} {v : Value} (h : RV ws sA b (.inl x) v) : ∃ n : Int32, v = .int n ∧ n.toInt = x := h
theorem RV.lng {ws : va_W} {sA : Nat → Nat} {b : Nat} {x : Int} {v : Value} (h : RV ws sA b (.inr (.inl x)) v) : ∃ n : Int64, v = .long n ∧ n.toInt = x := h
/-- the locals -/
def RLo (ws : va_W) (sA : Nat → Nat) (b : Nat) (nL : Nat) (ls : ML) (lsR : Array Slot) : Prop := ls.length = nL ∧ ∃ lv : List (Nat × Value), lv_has lsR nL lv ∧ ∀ (i : Nat) (x : MV), m_gl ls i = some x → ∃ v : Value, (i, v) ∈ lv ∧ RV ws sA b x v
theorem RLo.mono {ws ws' : va_W} {sA : Nat → Nat} {b nL : Nat} {ls : ML} {lsR : Array Slot} (hx : va_X2 ws ws') (h : RLo ws sA b nL ls lsR) : RLo ws' sA b nL ls lsR := by
  obtain ⟨h0, lv, h1, h2⟩ := h
  refine ⟨h0, lv, h1, fun i x hi => ?_⟩
  obtain ⟨v, h3, h4⟩ := h2 i x hi
  exact ⟨v, h3, h4.mono hx⟩
theorem RLo.at {ws : va_W} {sA : Nat → Nat} {b nL : Nat} {ls : ML} {lsR : Array Slot} (h : RLo ws sA b nL ls lsR) {i : Nat} {x : MV} (hi : m_gl ls i = some x) : ∃ v : Value, lsR[i]? = some (.val v) ∧ RV ws sA b x v := by
  obtain ⟨h0, lv, h1, h2⟩ := h
  obtain ⟨v, h3, h4⟩ := h2 i x hi
  exact ⟨v, h1.2.2 _ h3, h4⟩
theorem m_gl_set : ∀ (ls : ML) (i j : Nat) (v : Option MV), m_gl (ls.set i v) j = if i = j ∧ j < ls.length then v else m_gl ls j
  | [], i, j, v => by simp [m_gl]
  | a :: l, 0, 0, v => by simp [m_gl]
  | a :: l, 0, j + 1, v => by simp [m_gl]
  | a :: l, i + 1, 0, v => by simp [m_gl]
  | a :: l, i + 1, j + 1, v => by
    show m_gl (l.set i v) j = _
    rw [m_gl_set l i j v]
    simp [m_gl]
theorem m_gl_len : ∀ (ls : ML) (i : Nat) (x : MV), m_gl ls i = some x → i < ls.length
  | [], i, x, h => by simp [m_gl] at h
  | a :: l, 0, x, h => by simp
  | a :: l, i + 1, x, h => by
    have := m_gl_len l i x h
    simp; omega
/-- a cell -/
def CR (ws : va_W) (sA : Nat → Nat) (b : Nat) (tys : List (ClassId × FieldType)) (k n : Int) (f : Int → Int) (e : va_E) : Prop :=
  (k = 1 ∧ 0 ≤ n ∧ n ≤ 100000 ∧ ∃ (cA : ClassId) (t : Nat) (g : Nat → Int32), e = .inl (cA, n.toNat, .inl g) ∧ tys[t]? = some (cA, .int) ∧ ∀ j : Nat, j < n.toNat → (g j).toInt = f j) ∨
  (k = 2 ∧ 0 ≤ n ∧ n ≤ 100000 ∧ ∃ (cA : ClassId) (t : Nat) (g : Nat → Int64), e = .inl (cA, n.toNat, .inr (.inl g)) ∧ tys[t]? = some (cA, .long) ∧ ∀ j : Nat, j < n.toNat → (g j).toInt = f j) ∨
  (k = 3 ∧ 0 ≤ n ∧ n ≤ 100000 ∧ ∃ (cA : ClassId) (t : Nat) (g : Nat → Int32), e = .inl (cA, n.toNat, .inl g) ∧ tys[t]? = some (cA, .byte) ∧ ∀ j : Nat, j < n.toNat → (g j).toInt = f j) ∨
  (k = 4 ∧ 0 ≤ n ∧ n ≤ 100000 ∧ ∃ (cA : ClassId) (t : Nat) (g : Nat → Int32), e = .inl (cA, n.toNat, .inl g) ∧ tys[t]? = some (cA, .boolean) ∧ ∀ j : Nat, j < n.toNat → (g j).toInt = f j) ∨
  ((k = 5 ∨ k = 6 ∨ k = 7) ∧ 0 ≤ n ∧ n ≤ 100000 ∧ ∃ (cA : ClassId) (t : Nat) (g : Nat → Option Nat), e = .inl (cA, n.toNat, .inr (.inr (.inr (.inr g)))) ∧ tys[t]? = some (cA, .object (if k = 5 then RX5 else if k = 6 then RX2 else RX10)) ∧ ∀ j : Nat, j < n.toNat → RV ws sA b (.inr (.inr (f j))) (va_rf (g j))) ∨
  (k = 8 ∧ 0 ≤ n ∧ n ≤ 100000 ∧ ∃ (cA : ClassId) (t : Nat) (g : Nat → Option Nat), e = .inl (cA, n.toNat, .inr (.inr (.inr (.inr g)))) ∧ tys[t]? = some (cA, .array .int) ∧ ∀ j : Nat, j < n.toNat → RV ws sA b (.inr (.inr (f j))) (va_rf (g j))) ∨
  (∃ (ci : Nat) (fs : List Value), k = 100 + (ci : Int) ∧ e = .inr (ci, fs) ∧ fs.length = (m_ft ci).length ∧ ∀ (j ty : Nat), (m_ft ci)[j]? = some ty → ∃ v : Value, fs[j]? = some v ∧ RV ws sA b (m_mk ty (f j)) v)
theorem CR.mono {ws ws' : va_W} {sA : Nat → Nat} {b : Nat} {tys tys' : List (ClassId × FieldType)} {k n : Int} {f : Int → Int} {e : va_E} (hx : va_X2 ws ws') (ht : ∀ (t : Nat) q, tys[t]? = some q → tys'[t]? = some q) (h : CR ws sA b tys k n f e) : CR ws' sA b tys' k n f e := by
  rcases h with ⟨h1, h2, h3, cA, t, g, h4, h5, h6⟩ | ⟨h1, h2, h3, cA, t, g, h4, h5, h6⟩ | ⟨h1, h2, h3, cA, t, g, h4, h5, h6⟩ | ⟨h1, h2, h3, cA, t, g, h4, h5, h6⟩ | ⟨h1, h2, h3, cA, t, g, h4, h5, h6⟩ | ⟨h1, h2, h3, cA, t, g, h4, h5, h6⟩ | ⟨ci, fs, h1, h2, h3, h4⟩
  · exact Or.inl ⟨h1, h2, h3, cA, t, g, h4, ht _ _ h5, h6⟩
  · exact Or.inr (Or.inl ⟨h1, h2, h3, cA, t, g, h4, ht _ _ h5, h6⟩)
  · exact Or.inr (Or.inr (Or.inl ⟨h1, h2, h3, cA, t, g, h4, ht _ _ h5, h6⟩))
  · exact Or.inr (Or.inr (Or.inr (Or.inl ⟨h1, h2, h3, cA, t, g, h4, ht _ _ h5, h6⟩)))
  · exact Or.inr (Or.inr (Or.inr (Or.inr (Or.inl ⟨h1, h2, h3, cA, t, g, h4, ht _ _ h5, fun j hj => (h6 j hj).mono hx⟩))))
  · exact Or.inr (Or.inr (Or.inr (Or.inr (Or.inr (Or.inl ⟨h1, h2, h3, cA, t, g, h4, ht _ _ h5, fun j hj => (h6 j hj).mono hx⟩)))))
  · refine Or.inr (Or.inr (Or.inr (Or.inr (Or.inr (Or.inr ⟨ci, fs, h1, h2, h3, fun j ty hj => ?_⟩)))))
    obtain ⟨v, h5, h6⟩ := h4 j ty hj
    exact ⟨v, h5, h6.mono hx⟩
/-- the world -/
def WR (w0 : va_W) (D : va_G) (A : Nat → Prop) (sA : Nat → Nat) (b : Nat) (h : MH) (s : State) (H : Heap) (ws : va_W) (tys : List (ClassId × FieldType)) : Prop :=
  va_K D vwCl tys s ∧ va_P D vwCl ws H ∧ va_D A ws ∧ ws.length = h.1.1 ∧ (∀ a : Int, (a < 0 ∨ (h.1.1 : Int) ≤ a) → m_kd h a = 0) ∧ (∀ (k q : Nat) (e : va_E), ws[k]? = some (q, e) → CR ws sA b tys (m_kd h k) (m_ln h k) (h.2.2 k) e) ∧ va_X2 w0 ws
theorem WR.get {w0 : va_W} {D : va_G} {A : Nat → Prop} {sA : Nat → Nat} {b : Nat} {h : MH} {s : State} {H : Heap} {ws : va_W} {tys : List (ClassId × FieldType)} (hW : WR w0 D A sA b h s H ws tys) {a : Int} (ha : m_kd h a ≠ 0) : ∃ (k q : Nat) (e : va_E), a = (k : Int) ∧ ws[k]? = some (q, e) ∧ CR ws sA b tys (m_kd h a) (m_ln h a) (h.2.2 a) e := by
  obtain ⟨h1, h2, h3, h4, h5, h6, -⟩ := hW
  have h0 : 0 ≤ a ∧ a < (h.1.1 : Int) := by
    constructor
    · by_cases q : a < 0
      · exact absurd (h5 a (Or.inl q)) ha
      · omega
    · by_cases q : a < (h.1.1 : Int)
      · exact q
      · exact absurd (h5 a (Or.inr (by omega))) ha
  obtain ⟨k, rfl⟩ := Int.eq_ofNat_of_zero_le h0.1
  have hk : k < ws.length := by omega
  exact ⟨k, (ws[k]).1, (ws[k]).2, rfl, List.getElem?_eq_getElem hk, h6 k _ _ (List.getElem?_eq_getElem hk)⟩
theorem RV.place {ws : va_W} {sA : Nat → Nat} {b : Nat} {k : Nat} {v : Value} {q : Nat} {e : va_E} (h : RV ws sA b (.inr (.inr (k : Int))) v) (hk : ws[k]? = some (q, e)) : v = .ref q := by
  rcases h with ⟨h, -⟩ | ⟨h, -⟩ | ⟨j, -, h, -⟩ | ⟨k', q', e', h1, h2, h3⟩
  · omega
  · omega
  · omega
  · have : k' = k := by omega
    subst this
    rw [hk] at h2
    cases h2
    exact h3
theorem WR.chk {w0 : va_W} {D : va_G} {A : Nat → Prop} {sA : Nat → Nat} {b : Nat} {h : MH} {s : State} {H : Heap} {ws : va_W} {tys : List (ClassId × FieldType)} {t : Bool} (hW : WR w0 D A sA b h s H ws tys) : WR w0 D A sA b (m_chk t h) s H ws tys := hW
/-- one cell anew -/
theorem WR.put {w0 : va_W} {D : va_G} {A : Nat → Prop} {sA : Nat → Nat} {b : Nat} {h h' : MH} {s : State} {H H1 : Heap} {ws : va_W} {tys : List (ClassId × FieldType)} (hW : WR w0 D A sA b h s H ws tys) {p q : Nat} {e0 e1 : va_E} (hp : ws[p]? = some (q, e0)) (hP : va_P D vwCl (ws.set p (q, e1)) H1) (hD : va_D A (ws.set p (q, e1)))
    (h1 : h'.1.1 = h.1.1) (h2 : h'.2.1 = h.2.1) (h3 : ∀ k : Nat, k ≠ p → h'.2.2 k = h.2.2 k) (hc : CR ws sA b tys (m_kd h p) (m_ln h p) (h'.2.2 p) e1) : WR w0 D A sA b h' s H1 (ws.set p (q, e1)) tys := by
  obtain ⟨w1, w2, w3, w4, w5, w6, w7⟩ := hW
  refine ⟨w1, hP, hD, by simp [w4, h1], fun a ha => ?_, fun k q' e hk => ?_, w7.tr (va_X2.set hp)⟩
  · have := w5 a (by rw [← h1]; exact ha)
    unfold m_kd at *
    rw [h2]; exact this
  · have hm : ∀ a, m_kd h' a = m_kd h a := fun a => by unfold m_kd; rw [h2]
    have hl : ∀ a, m_ln h' a = m_ln h a := fun a => by unfold m_ln; rw [h2]
    rw [hm, hl]
    by_cases hkp : k = p
    · subst hkp
      rw [List.getElem?_set_self (List.getElem?_eq_some_iff.mp hp).1] at hk
      cases hk
      exact hc.mono (va_X2.set hp) (fun _ _ h => h)
    · rw [List.getElem?_set_ne (fun q => hkp q.symm)] at hk
      rw [h3 k hkp]
      exact (w6 k q' e hk).mono (va_X2.set hp) (fun _ _ h => h)
/-- one cell more -/
theorem WR.new {w0 : va_W} {D : va_G} {A : Nat → Prop} {sA : Nat → Nat} {b : Nat} {h : MH} {s : State} {H H1 : Heap} {ws : va_W} {tys tys' : List (ClassId × FieldType)} (hW : WR w0 D A sA b h s H ws tys) {q : Nat} {e1 : va_E} (hK : va_K D vwCl tys' s) (ht : ∀ (t : Nat) q, tys[t]? = some q → tys'[t]? = some q) (hP : va_P D vwCl (ws ++ [(q, e1)]) H1) (hD : va_D A (ws ++ [(q, e1)]))
    {k n : Int} {ns : Nat} {g : Int → Int} (hc : CR (ws ++ [(q, e1)]) sA b tys' k n g e1) : WR w0 D A sA b (m_al h k n ns g) s H1 (ws ++ [(q, e1)]) tys' := by
  obtain ⟨w1, w2, w3, w4, w5, w6, w7⟩ := hW
  refine ⟨hK, hP, hD, by simp [w4, m_al], fun a ha => ?_, fun k' q' e hk => ?_, w7.tr va_X2.push⟩
  · have h1 : ¬ a = (h.1.1 : Int) := by
      simp only [m_al] at ha
      omega
    have := w5 a (by simp only [m_al] at ha; omega)
    unfold m_kd at *
    simp only [m_al, h1, if_false]
    exact this
  · by_cases hk2 : k' = ws.length
    · subst hk2
      rw [List.getElem?_append_right (Nat.le_refl _)] at hk
      simp at hk
      obtain ⟨rfl, rfl⟩ := hk
      have e3 : (m_al h k n ns g).2.2 (ws.length : Int) = g := by funext j; simp [m_al, w4]
      rw [e3]
      have e4 : m_kd (m_al h k n ns g) (ws.length : Int) = k := by simp [m_kd, m_al, w4]
      have e5 : m_ln (m_al h k n ns g) (ws.length : Int) = n := by simp [m_ln, m_al, w4]
      rw [e4, e5]
      exact hc
    · have hlt : k' < ws.length := by
        have := (List.getElem?_eq_some_iff.mp hk).1
        simp at this
        omega
      rw [List.getElem?_append_left hlt] at hk
      have hne : ¬ (k' : Int) = (h.1.1 : Int) := by omega
      have e3 : (m_al h k n ns g).2.2 (k' : Int) = h.2.2 (k' : Int) := by funext j; simp [m_al, hne]
      have e4 : m_kd (m_al h k n ns g) (k' : Int) = m_kd h (k' : Int) := by simp [m_kd, m_al, hne]
      have e5 : m_ln (m_al h k n ns g) (k' : Int) = m_ln h (k' : Int) := by simp [m_ln, m_al, hne]
      rw [e3, e4, e5]
      exact (w6 k' q' e hk).mono va_X2.push ht
