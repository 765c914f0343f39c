theorem CR.rows {ws : va_W} {sA : Nat → Nat} {b : Nat} {tys : List (ClassId × FieldType)} {k n : Int} {f : Int → Int} {e : va_E} (h : CR ws sA b tys k n f e) (hk : k = 8) : 0 ≤ n ∧ n ≤ 100000 ∧ ∃ (cA : ClassId) (t : Nat) (g : Nat → Option Nat), e = .inl (cA, n.toNat, .inr (.inr (.inr (.inr g)))) ∧ tys[t]? = some (cA, .array .int) ∧ ∀ j : Nat, j < n.toNat → RV ws sA b (.inr (.inr (f j))) (va_rf (g j)) := by
  rcases h with ⟨h1, -⟩ | ⟨h1, -⟩ | ⟨h1, -⟩ | ⟨h1, -⟩ | ⟨h1, -⟩ | ⟨h1, h2⟩ | ⟨ci', fs, h1, -⟩
  · omega
  · omega
  · omega
  · omega
  · omega
  · exact h2
  · omega
/-- an array of any kind: its cell -/
theorem CR.arr {ws : va_W} {sA : Nat → Nat} {b : Nat} {tys : List (ClassId × FieldType)} {k n : Int} {f : Int → Int} {e : va_E} (h : CR ws sA b tys k n f e) (h1 : 1 ≤ k) (h8 : k ≤ 8) : 0 ≤ n ∧ n ≤ 100000 ∧ ∃ (cA : ClassId) (t : Nat) (x : vp_A) (ty : FieldType), e = .inl (cA, x) ∧ x.1 = n.toNat ∧ tys[t]? = some (cA, ty) := by
  rcases h with ⟨h1, h2, h3, cA, t, g, h4, h5, -⟩ | ⟨h1, h2, h3, cA, t, g, h4, h5, -⟩ | ⟨h1, h2, h3, cA, t, g, h4, h5, -⟩ | ⟨h1, h2, h3, cA, t, g, h4, h5, -⟩ | ⟨h1, h2, h3, cA, t, g, h4, h5, -⟩ | ⟨h1, h2, h3, cA, t, g, h4, h5, -⟩ | ⟨ci', fs, h1, -⟩
  · exact ⟨h2, h3, cA, t, _, _, h4, rfl, h5⟩
  · exact ⟨h2, h3, cA, t, _, _, h4, rfl, h5⟩
  · exact ⟨h2, h3, cA, t, _, _, h4, rfl, h5⟩
  · exact ⟨h2, h3, cA, t, _, _, h4, rfl, h5⟩
  · exact ⟨h2, h3, cA, t, _, _, h4, rfl, h5⟩
  · exact ⟨h2, h3, cA, t, _, _, h4, rfl, h5⟩
  · omega
section GoI
variable {p : Program} {l : Launch} {e : Env} {R : Room} {s : State} {m : MethodId} {args : Array Value} {below : List Frame} {meth : Method} {c : Code} {Q : State → Prop} {cc : ByteArray} {w0 : va_W} {D : va_G} {A : Nat → Prop} {sA : Nat → Nat} {b nL zc zs : Nat} {q : MI}
theorem go_lald {pc : Nat} {ls : ML} {r : List MV} {h : MH} {i a : Int} (C : Cx p s m args meth c cc A q) (hdg : decode cc pc = .ok (.laload, 1)) (hok : m_in h a 2 i = true)
    (k : Go p l e R s m args below meth c Q w0 D A sA b nL zc zs (m_nx pc 1 ls (.inr (.inl (m_rd h a i)) :: r) h)) : Go p l e R s m args below meth c Q w0 D A sA b nL zc zs (pc, ls, .inl i :: .inr (.inr a) :: r, h) := by
  intro H locs cells slots ws tys lsR stR hW hS hc hs hL hSt
  dsimp only at hW hc hs hL hSt
  obtain ⟨v, r1, rfl, hv, h1⟩ := RS.cons hSt
  obtain ⟨v2, r2, rfl, hv2, h2⟩ := RS.cons h1
  obtain ⟨ni, rfl, rfl⟩ := hv.int
  obtain ⟨i1, i2, i3⟩ := m_in_ok hok
  obtain ⟨kk, qa, ee, rfl, hk, hcr⟩ := hW.get (a := a) (by omega)
  have hv2 := hv2.place hk
  subst hv2
  obtain ⟨n0, n1, cA, t, g, rfl, ht, hg⟩ := hcr.longs i1
  obtain ⟨j1, j2, j3⟩ := m_idx i2 i3
  obtain ⟨hx, hb, -⟩ := C
  refine va_lald (D := D) (cl := vwCl) hx hb hW.1 hW.2.1 kk t hk ht j1 hdg (k H locs cells slots ws tys lsR _ hW hS hc hs hL ⟨⟨_, rfl, ?_⟩, h2⟩)
  rw [hg _ j3, j2]
  rfl
theorem go_bald {pc : Nat} {ls : ML} {r : List MV} {h : MH} {i a : Int} (C : Cx p s m args meth c cc A q) (hdg : decode cc pc = .ok (.baload, 1)) (hok : m_in h a 3 i = true)
    (k : Go p l e R s m args below meth c Q w0 D A sA b nL zc zs (m_nx pc 1 ls (.inl (m_rd h a i) :: r) h)) : Go p l e R s m args below meth c Q w0 D A sA b nL zc zs (pc, ls, .inl i :: .inr (.inr a) :: r, h) := by
  intro H locs cells slots ws tys lsR stR hW hS hc hs hL hSt
  dsimp only at hW hc hs hL hSt
  obtain ⟨v, r1, rfl, hv, h1⟩ := RS.cons hSt
  obtain ⟨v2, r2, rfl, hv2, h2⟩ := RS.cons h1
  obtain ⟨ni, rfl, rfl⟩ := hv.int
  obtain ⟨i1, i2, i3⟩ := m_in_ok hok
  obtain ⟨kk, qa, ee, rfl, hk, hcr⟩ := hW.get (a := a) (by omega)
  have hv2 := hv2.place hk
  subst hv2
  obtain ⟨n0, n1, cA, t, g, rfl, ht, hg⟩ := hcr.bytes i1
  obtain ⟨j1, j2, j3⟩ := m_idx i2 i3
  obtain ⟨hx, hb, -⟩ := C
  refine va_bald (D := D) (cl := vwCl) hx hb hW.1 hW.2.1 kk t hk ht j1 hdg (k H locs cells slots ws tys lsR _ hW hS hc hs hL ⟨⟨_, rfl, ?_⟩, h2⟩)
  rw [hg _ j3, j2]
  rfl
theorem go_zald {pc : Nat} {ls : ML} {r : List MV} {h : MH} {i a : Int} (C : Cx p s m args meth c cc A q) (hdg : decode cc pc = .ok (.baload, 1)) (hok : m_in h a 4 i = true)
    (k : Go p l e R s m args below meth c Q w0 D A sA b nL zc zs (m_nx pc 1 ls (.inl (m_rd h a i) :: r) h)) : Go p l e R s m args below meth c Q w0 D A sA b nL zc zs (pc, ls, .inl i :: .inr (.inr a) :: r, h) := by
  intro H locs cells slots ws tys lsR stR hW hS hc hs hL hSt
  dsimp only at hW hc hs hL hSt
  obtain ⟨v, r1, rfl, hv, h1⟩ := RS.cons hSt
  obtain ⟨v2, r2, rfl, hv2, h2⟩ := RS.cons h1
  obtain ⟨ni, rfl, rfl⟩ := hv.int
  obtain ⟨i1, i2, i3⟩ := m_in_ok hok
  obtain ⟨kk, qa, ee, rfl, hk, hcr⟩ := hW.get (a := a) (by omega)
  have hv2 := hv2.place hk
  subst hv2
  obtain ⟨n0, n1, cA, t, g, rfl, ht, hg⟩ := hcr.bools i1
  obtain ⟨j1, j2, j3⟩ := m_idx i2 i3
  obtain ⟨hx, hb, -⟩ := C
  refine va_zald (D := D) (cl := vwCl) hx hb hW.1 hW.2.1 kk t hk ht j1 hdg (k H locs cells slots ws tys lsR _ hW hS hc hs hL ⟨⟨_, rfl, ?_⟩, h2⟩)
  rw [hg _ j3, j2]
  rfl
theorem go_aald {pc : Nat} {ls : ML} {r : List MV} {h : MH} {i a : Int} (C : Cx p s m args meth c cc A q) (hdg : decode cc pc = .ok (.aaload, 1)) (hok : (m_kd h a = 5 ∨ m_kd h a = 6 ∨ m_kd h a = 7) ∧ 0 ≤ i ∧ i < m_ln h a)
    (k : Go p l e R s m args below meth c Q w0 D A sA b nL zc zs (m_nx pc 1 ls (.inr (.inr (m_rd h a i)) :: r) h)) : Go p l e R s m args below meth c Q w0 D A sA b nL zc zs (pc, ls, .inl i :: .inr (.inr a) :: r, h) := by
  intro H locs cells slots ws tys lsR stR hW hS hc hs hL hSt
  dsimp only at hW hc hs hL hSt
  obtain ⟨v, r1, rfl, hv, h1⟩ := RS.cons hSt
  obtain ⟨v2, r2, rfl, hv2, h2⟩ := RS.cons h1
  obtain ⟨ni, rfl, rfl⟩ := hv.int
  obtain ⟨i1, i2, i3⟩ := hok
  obtain ⟨kk, qa, ee, rfl, hk, hcr⟩ := hW.get (a := a) (by omega)
  have hv2 := hv2.place hk
  subst hv2
  obtain ⟨n0, n1, cA, t, g, rfl, ht, hg⟩ := hcr.refs i1
  obtain ⟨j1, j2, j3⟩ := m_idx i2 i3
  obtain ⟨hx, hb, -⟩ := C
  have hlt : ni.toNatClampNeg < (m_ln h kk).toNat := j3
  have hgo := hg _ j3
  rw [j2] at hgo
  exact W.aald (v := va_rf (g ni.toNatClampNeg)) (ty := .object _) hx hb (hW.2.1 kk _ hk) ((hW.1.2 t _ ht).1 _ (fun j => va_rf (g j))) rfl (fun z => by cases z) (by show ¬ (ni < 0 ∨ (arrV _ _ _).slots.size ≤ _); rw [arrV_size]; exact j1) (by show (arrV _ _ _).slots[_]? = _; rw [arrV_read _ _ hlt]) rfl rfl hdg (k H locs cells slots ws tys lsR _ hW hS hc hs hL ⟨hgo, h2⟩)
theorem go_rald {pc : Nat} {ls : ML} {r : List MV} {h : MH} {i a : Int} (C : Cx p s m args meth c cc A q) (hdg : decode cc pc = .ok (.aaload, 1)) (hok : m_kd h a = 8 ∧ 0 ≤ i ∧ i < m_ln h a)
    (k : Go p l e R s m args below meth c Q w0 D A sA b nL zc zs (m_nx pc 1 ls (.inr (.inr (m_rd h a i)) :: r) h)) : Go p l e R s m args below meth c Q w0 D A sA b nL zc zs (pc, ls, .inl i :: .inr (.inr a) :: r, h) := by
  intro H locs cells slots ws tys lsR stR hW hS hc hs hL hSt
  dsimp only at hW hc hs hL hSt
  obtain ⟨v, r1, rfl, hv, h1⟩ := RS.cons hSt
  obtain ⟨v2, r2, rfl, hv2, h2⟩ := RS.cons h1
  obtain ⟨ni, rfl, rfl⟩ := hv.int
  obtain ⟨i1, i2, i3⟩ := hok
  obtain ⟨kk, qa, ee, rfl, hk, hcr⟩ := hW.get (a := a) (by omega)
  have hv2 := hv2.place hk
  subst hv2
  obtain ⟨n0, n1, cA, t, g, rfl, ht, hg⟩ := hcr.rows i1
  obtain ⟨j1, j2, j3⟩ := m_idx i2 i3
  obtain ⟨hx, hb, -⟩ := C
  have hlt : ni.toNatClampNeg < (m_ln h kk).toNat := j3
  have hgo := hg _ j3
  rw [j2] at hgo
  exact W.aald (v := va_rf (g ni.toNatClampNeg)) (ty := .array .int) hx hb (hW.2.1 kk _ hk) ((hW.1.2 t _ ht).1 _ (fun j => va_rf (g j))) rfl (fun z => by cases z) (by show ¬ (ni < 0 ∨ (arrV _ _ _).slots.size ≤ _); rw [arrV_size]; exact j1) (by show (arrV _ _ _).slots[_]? = _; rw [arrV_read _ _ hlt]) rfl rfl hdg (k H locs cells slots ws tys lsR _ hW hS hc hs hL ⟨hgo, h2⟩)
theorem go_last {pc : Nat} {ls : ML} {r : List MV} {h : MH} {i a x : Int} (C : Cx p s m args meth c cc A q) (hdg : decode cc pc = .ok (.lastore, 1)) (hok : m_in h a 2 i = true)
    (k : Go p l e R s m args below meth c Q w0 D A sA b nL zc zs (m_nx pc 1 ls r (m_wr h a i x))) : Go p l e R s m args below meth c Q w0 D A sA b nL zc zs (pc, ls, .inr (.inl x) :: .inl i :: .inr (.inr a) :: r, h) := by
  intro H locs cells slots ws tys lsR stR hW hS hc hs hL hSt
  dsimp only at hW hc hs hL hSt
  obtain ⟨v0, r0, rfl, hv0, h0⟩ := RS.cons hSt
  obtain ⟨v, r1, rfl, hv, h1⟩ := RS.cons h0
  obtain ⟨v2, r2, rfl, hv2, h2⟩ := RS.cons h1
  obtain ⟨ni, rfl, rfl⟩ := hv.int
  obtain ⟨nx, rfl, rfl⟩ := hv0.lng
  obtain ⟨i1, i2, i3⟩ := m_in_ok hok
  obtain ⟨kk, qa, ee, rfl, hk, hcr⟩ := hW.get (a := a) (by omega)
  have hv2 := hv2.place hk
  subst hv2
  obtain ⟨n0, n1, cA, t, g, rfl, ht, hg⟩ := hcr.longs i1
  obtain ⟨j1, j2, j3⟩ := m_idx i2 i3
  obtain ⟨hx, hb, -⟩ := C
  refine va_last (D := D) (cl := vwCl) hx hb hW.1 hW.2.1 hW.2.2.1 hS kk t hk ht j1 hdg (fun H1 locs1 hP1 hD1 hS1 => ?_)
  refine k H1 locs1 cells slots _ tys lsR _ (hW.put hk hP1 hD1 rfl rfl ?_ ?_) hS1 hc hs (hL.mono (va_X2.set hk)) (h2.mono (va_X2.set hk))
  · intro k9 h9
    funext j
    show (if (k9 : Int) = (kk : Int) ∧ j = ni.toInt then _ else h.2.2 k9 j) = h.2.2 k9 j
    rw [if_neg (fun z => h9 (by omega))]
  · refine Or.inr (Or.inl ⟨i1, n0, n1, cA, t, _, rfl, ht, fun j hj => ?_⟩)
    show (vp_updL g ni.toNatClampNeg _ j).toInt = (if (kk : Int) = (kk : Int) ∧ (j : Int) = ni.toInt then _ else h.2.2 kk j)
    by_cases hjn : j = ni.toNatClampNeg
    · subst hjn
      rw [if_pos ⟨rfl, j2⟩, pk_uLs]
    · rw [if_neg (fun z => hjn (by omega)), pk_uLn hjn, hg j hj]
theorem go_bast {pc : Nat} {ls : ML} {r : List MV} {h : MH} {i a x : Int} (C : Cx p s m args meth c cc A q) (hdg : decode cc pc = .ok (.bastore, 1)) (hok : m_in h a 3 i = true)
    (k : Go p l e R s m args below meth c Q w0 D A sA b nL zc zs (m_nx pc 1 ls r (m_wr h a i (m_i2b x)))) : Go p l e R s m args below meth c Q w0 D A sA b nL zc zs (pc, ls, .inl x :: .inl i :: .inr (.inr a) :: r, h) := by
  intro H locs cells slots ws tys lsR stR hW hS hc hs hL hSt
  dsimp only at hW hc hs hL hSt
  obtain ⟨v0, r0, rfl, hv0, h0⟩ := RS.cons hSt
  obtain ⟨v, r1, rfl, hv, h1⟩ := RS.cons h0
  obtain ⟨v2, r2, rfl, hv2, h2⟩ := RS.cons h1
  obtain ⟨ni, rfl, rfl⟩ := hv.int
  obtain ⟨nx, rfl, rfl⟩ := hv0.int
  obtain ⟨i1, i2, i3⟩ := m_in_ok hok
  obtain ⟨kk, qa, ee, rfl, hk, hcr⟩ := hW.get (a := a) (by omega)
  have hv2 := hv2.place hk
  subst hv2
  obtain ⟨n0, n1, cA, t, g, rfl, ht, hg⟩ := hcr.bytes i1
  obtain ⟨j1, j2, j3⟩ := m_idx i2 i3
  obtain ⟨hx, hb, -⟩ := C
  refine va_bast (D := D) (cl := vwCl) hx hb hW.1 hW.2.1 hW.2.2.1 hS kk t hk ht j1 hdg (fun H1 locs1 hP1 hD1 hS1 => ?_)
  refine k H1 locs1 cells slots _ tys lsR _ (hW.put hk hP1 hD1 rfl rfl ?_ ?_) hS1 hc hs (hL.mono (va_X2.set hk)) (h2.mono (va_X2.set hk))
  · intro k9 h9
    funext j
    show (if (k9 : Int) = (kk : Int) ∧ j = ni.toInt then _ else h.2.2 k9 j) = h.2.2 k9 j
    rw [if_neg (fun z => h9 (by omega))]
  · refine Or.inr (Or.inr (Or.inl ⟨i1, n0, n1, cA, t, _, rfl, ht, fun j hj => ?_⟩))
    show (upd g ni.toNatClampNeg _ j).toInt = (if (kk : Int) = (kk : Int) ∧ (j : Int) = ni.toInt then _ else h.2.2 kk j)
    by_cases hjn : j = ni.toNatClampNeg
    · subst hjn
      rw [if_pos ⟨rfl, j2⟩, pk_us]
      rw [vp_nar_byte, m_i2b, Int32.ofInt_toInt]
    · rw [if_neg (fun z => hjn (by omega)), pk_un hjn, hg j hj]
theorem go_zast {pc : Nat} {ls : ML} {r : List MV} {h : MH} {i a x : Int} (C : Cx p s m args meth c cc A q) (hdg : decode cc pc = .ok (.bastore, 1)) (hok : m_in h a 4 i = true)
    (k : Go p l e R s m args below meth c Q w0 D A sA b nL zc zs (m_nx pc 1 ls r (m_wr h a i (m_band x 1)))) : Go p l e R s m args below meth c Q w0 D A sA b nL zc zs (pc, ls, .inl x :: .inl i :: .inr (.inr a) :: r, h) := by
  intro H locs cells slots ws tys lsR stR hW hS hc hs hL hSt
  dsimp only at hW hc hs hL hSt
  obtain ⟨v0, r0, rfl, hv0, h0⟩ := RS.cons hSt
  obtain ⟨v, r1, rfl, hv, h1⟩ := RS.cons h0
  obtain ⟨v2, r2, rfl, hv2, h2⟩ := RS.cons h1
  obtain ⟨ni, rfl, rfl⟩ := hv.int
  obtain ⟨nx, rfl, rfl⟩ := hv0.int
  obtain ⟨i1, i2, i3⟩ := m_in_ok hok
  obtain ⟨kk, qa, ee, rfl, hk, hcr⟩ := hW.get (a := a) (by omega)
  have hv2 := hv2.place hk
  subst hv2
  obtain ⟨n0, n1, cA, t, g, rfl, ht, hg⟩ := hcr.bools i1
  obtain ⟨j1, j2, j3⟩ := m_idx i2 i3
  obtain ⟨hx, hb, -⟩ := C
  refine va_zast (D := D) (cl := vwCl) hx hb hW.1 hW.2.1 hW.2.2.1 hS kk t hk ht j1 hdg (fun H1 locs1 hP1 hD1 hS1 => ?_)
  refine k H1 locs1 cells slots _ tys lsR _ (hW.put hk hP1 hD1 rfl rfl ?_ ?_) hS1 hc hs (hL.mono (va_X2.set hk)) (h2.mono (va_X2.set hk))
  · intro k9 h9
    funext j
    show (if (k9 : Int) = (kk : Int) ∧ j = ni.toInt then _ else h.2.2 k9 j) = h.2.2 k9 j
    rw [if_neg (fun z => h9 (by omega))]
  · refine Or.inr (Or.inr (Or.inr (Or.inl ⟨i1, n0, n1, cA, t, _, rfl, ht, fun j hj => ?_⟩)))
    show (upd g ni.toNatClampNeg _ j).toInt = (if (kk : Int) = (kk : Int) ∧ (j : Int) = ni.toInt then _ else h.2.2 kk j)
    by_cases hjn : j = ni.toNatClampNeg
    · subst hjn
      rw [if_pos ⟨rfl, j2⟩, pk_us]
      rw [m_band, Int32.ofInt_toInt]
      rfl
    · rw [if_neg (fun z => hjn (by omega)), pk_un hjn, hg j hj]
end GoI
