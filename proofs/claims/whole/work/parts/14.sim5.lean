theorem t_ty_use {d : String} {ty : Nat} {ws : va_W} {sA : Nat → Nat} {b : Nat} {x : Int} {v : Value} (h : t_ty d ty = true) (hv : RV ws sA b (m_mk ty x) v) : ∃ fty : FieldType, parseFieldDescriptor d = some fty ∧ narrow fty v = v ∧ fits fty v = true := by
  have key : ∀ (fty : FieldType), (∃ C, fty = .object C) ∨ (∃ t, fty = .array t) → RV ws sA b (.inr (.inr x)) v → narrow fty v = v ∧ fits fty v = true := by
    intro fty hf hr
    rcases hr with ⟨-, rfl⟩ | ⟨-, rfl⟩ | ⟨j, -, -, rfl⟩ | ⟨k, q, e, -, -, rfl⟩ <;> rcases hf with ⟨C, rfl⟩ | ⟨t, rfl⟩ <;> exact ⟨rfl, rfl⟩
  unfold t_ty at h
  split at h
  · rename_i hp
    have := Nat.eq_of_beq_eq_true h
    subst this
    obtain ⟨n, rfl, -⟩ := hv
    exact ⟨_, hp, rfl, rfl⟩
  · rename_i hp
    have := Nat.eq_of_beq_eq_true h
    subst this
    obtain ⟨n, rfl, -⟩ := hv
    exact ⟨_, hp, rfl, rfl⟩
  · rename_i C hp
    have := Nat.eq_of_beq_eq_true h
    subst this
    obtain ⟨h1, h2⟩ := key (.object C) (Or.inl ⟨C, rfl⟩) hv
    exact ⟨_, hp, h1, h2⟩
  · rename_i t hp
    have := Nat.eq_of_beq_eq_true h
    subst this
    obtain ⟨h1, h2⟩ := key (.array t) (Or.inr ⟨t, rfl⟩) hv
    exact ⟨_, hp, h1, h2⟩
  · cases h
section GoJ
variable {p : Program} {l : Launch} {e : Env} {R : Room} {s : State} {m : MethodId} {args : Array Value} {below : List Frame} {meth : Method} {c : Code} {Q : State → Prop} {cc : ByteArray} {w0 : va_W} {D : va_G} {A : Nat → Prop} {sA : Nat → Nat} {b nL zc zs : Nat} {q : MI}
theorem go_put {i pc : Nat} {ls : ML} {r : List MV} {h : MH} {a x : Int} {ci k0 ty : Nat} {fn : Bool} (C : Cx p s m args meth c cc A q) (hdg : decode cc pc = .ok (.putfield i, 3)) (hp : m_l (m_P q.1).1 i = some (ci, k0, ty, fn)) (hok : (m_is h a (100 + ci) && (!fn || (q.2.2.2.2.1 && Nat.beq q.1 ci))) = true)
    (k : Go p l e R s m args below meth c Q w0 D A sA b nL zc zs (m_nx pc 3 ls r (m_wr h a k0 x))) : Go p l e R s m args below meth c Q w0 D A sA b nL zc zs (pc, ls, m_mk ty x :: .inr (.inr a) :: r, h) := by
  intro H locs cells slots ws tys lsR stR hW hS hc hs hL hSt
  dsimp only at hW hc hs hL hSt
  obtain ⟨v0, r0, rfl, hv0, h0⟩ := RS.cons hSt
  obtain ⟨v, r1, rfl, hv, h1⟩ := RS.cons h0
  rw [Bool.and_eq_true] at hok
  have hkd := m_is_ok hok.1
  obtain ⟨kk, qa, ee, rfl, hk, hcr⟩ := hW.get (a := a) (by omega)
  obtain ⟨fs, rfl, hfl, hfs⟩ := hcr.obj hkd
  obtain ⟨rr, f1, f2, f3, f4, f5, f6, f7, f8⟩ := f_use hp
  have hv := hv.place hk
  subst hv
  obtain ⟨fty, t1, t2, t3⟩ := t_ty_use f5 hv0
  obtain ⟨hx, hb, hml, hown, hts, -, hini, -⟩ := C
  obtain ⟨C0, T0, N0⟩ := rr
  dsimp only at f2 f3 f4 f5 f7 f8 t1
  obtain ⟨u1, u2, u3, -⟩ := cl_all f1
  have hklt : k0 < fs.length := by rw [hfl, f7]; exact f2
  have fin : ∀ (H1 : Heap) (locs1 : List Loc), va_P D vwCl (ws.set kk (qa, .inr (ci, fs.set k0 v0))) H1 → va_D A (ws.set kk (qa, .inr (ci, fs.set k0 v0))) → va_S A s.heap H1 locs1 → W p l e R s m args below meth c H1 locs1 cells slots Q (F0 m (pc + 3) lsR r1) := by
    intro H1 locs1 hP1 hD1 hS1
    refine k H1 locs1 cells slots _ tys lsR _ (hW.put hk hP1 hD1 rfl rfl ?_ ?_) hS1 hc hs (hL.mono (va_X2.set hk)) (h1.mono (va_X2.set hk))
    · intro k9 h9
      funext j
      show (if (k9 : Int) = (kk : Int) ∧ j = (k0 : Int) then _ else h.2.2 k9 j) = h.2.2 k9 j
      rw [if_neg (fun z => h9 (by omega))]
    · refine Or.inr (Or.inr (Or.inr (Or.inr (Or.inr (Or.inr ⟨ci, _, hkd, rfl, by rw [List.length_set, hfl], fun j ty' hj => ?_⟩)))))
      show ∃ v : Value, (fs.set k0 v0)[j]? = some v ∧ RV ws sA b (m_mk ty' (if (kk : Int) = (kk : Int) ∧ (j : Int) = (k0 : Int) then x else h.2.2 kk j)) v
      by_cases hjk : j = k0
      · subst hjk
        rw [if_pos ⟨rfl, rfl⟩, List.getElem?_set_self hklt]
        rw [f6] at hj
        cases hj
        exact ⟨v0, rfl, hv0⟩
      · rw [if_neg (fun z => hjk (by omega)), List.getElem?_set_ne (fun z => hjk z.symm)]
        exact hfs j ty' hj
  cases fn with
  | false => exact va_put (D := D) (cl := vwCl) (ci := ci) (v := v0) (ty := fty) (C := C0) (T := T0) (N := N0) (ref := C0) hx hb hts u1 (m_ty ci) u3 u2 hown hW.1 hW.2.1 hW.2.2.1 hS kk hk f1 k0 f2 (hts _ f8) (fun x hx9 => by rw [f3] at hx9; exact hx9) f4 t1 t2 t3 hklt hdg fin
  | true =>
    have h9 : (q.2.2.2.2.1 && Nat.beq q.1 ci) = true := by simpa using hok.2
    rw [Bool.and_eq_true] at h9
    have hqc := Nat.eq_of_beq_eq_true h9.2
    have hC0 : C0 = Rn q.1 := by rw [hqc]; exact (Rn_cl f1).symm
    exact va_putF (D := D) (cl := vwCl) (ci := ci) (v := v0) (ty := fty) (C := C0) (T := T0) (N := N0) (ref := C0) hx hb hts u1 (m_ty ci) u3 u2 hown hW.1 hW.2.1 hW.2.2.1 hS kk hk f1 k0 f2 (hts _ f8) (fun x hx9 => by rw [f3] at hx9; exact hx9) f4 (hini h9.1) (by rw [f3, hC0]) t1 t2 t3 hklt hdg fin
theorem go_aast {pc : Nat} {ls : ML} {r : List MV} {h : MH} {i a x : Int} {ci : Nat} (C : Cx p s m args meth c cc A q) (hdg : decode cc pc = .ok (.aastore, 1)) (hok : m_in h a 5 i = true ∧ m_is h x 105 = true ∧ ci = 5 ∨ m_in h a 6 i = true ∧ m_is h x 102 = true ∧ ci = 2 ∨ m_in h a 7 i = true ∧ m_is h x 110 = true ∧ ci = 10)
    (k : Go p l e R s m args below meth c Q w0 D A sA b nL zc zs (m_nx pc 1 ls r (m_wr h a i x))) : Go p l e R s m args below meth c Q w0 D A sA b nL zc zs (pc, ls, .inr (.inr x) :: .inl i :: .inr (.inr a) :: r, h) := by
  intro H locs cells slots ws tys lsR stR hW hS hc hs hL hSt
  dsimp only at hW hc hs hL hSt
  obtain ⟨v0, r0, rfl, hv0, h0⟩ := RS.cons hSt
  obtain ⟨v, r1, rfl, hv, h1⟩ := RS.cons h0
  obtain ⟨v2, r2, rfl, hv2, h2⟩ := RS.cons h1
  obtain ⟨ni, rfl, rfl⟩ := hv.int
  have hall : (m_kd h a = 5 ∨ m_kd h a = 6 ∨ m_kd h a = 7) ∧ 0 ≤ ni.toInt ∧ ni.toInt < m_ln h a ∧ m_kd h x = 100 + (ci : Int) ∧ ∃ rr : vw_C, vwCl[ci]? = some rr ∧ rr.1 = (if m_kd h a = 5 then RX5 else if m_kd h a = 6 then RX2 else RX10) := by
    rcases hok with ⟨o1, o2, rfl⟩ | ⟨o1, o2, rfl⟩ | ⟨o1, o2, rfl⟩
    · obtain ⟨i1, i2, i3⟩ := m_in_ok o1
      exact ⟨Or.inl i1, i2, i3, m_is_ok o2, _, rfl, by rw [if_pos i1]⟩
    · obtain ⟨i1, i2, i3⟩ := m_in_ok o1
      exact ⟨Or.inr (Or.inl i1), i2, i3, m_is_ok o2, _, rfl, by rw [if_neg (by omega), if_pos i1]⟩
    · obtain ⟨i1, i2, i3⟩ := m_in_ok o1
      exact ⟨Or.inr (Or.inr i1), i2, i3, m_is_ok o2, _, rfl, by rw [if_neg (by omega), if_neg (by omega)]⟩
  obtain ⟨i1, i2, i3, hxk, rr, hrr, hrn⟩ := hall
  obtain ⟨kk, qa, ee, rfl, hk, hcr⟩ := hW.get (a := a) (by omega)
  have hv2 := hv2.place hk
  subst hv2
  obtain ⟨kx, qx, ex, rfl, hkx, hcx⟩ := hW.get (a := x) (by omega)
  have hv0r := hv0.place hkx
  subst hv0r
  obtain ⟨fsx, rfl, -, -⟩ := hcx.obj hxk
  obtain ⟨n0, n1, cA, t, g, rfl, ht, hg⟩ := hcr.refs i1
  obtain ⟨j1, j2, j3⟩ := m_idx i2 i3
  obtain ⟨hx, hb, -⟩ := C
  rw [← hrn] at ht
  refine va_astq (D := D) (cl := vwCl) (r := rr) hx hb hW.1 hW.2.1 hW.2.2.1 hS kk t kx ci hk ht hkx hrr j1 hdg (fun H1 locs1 hP1 hD1 hS1 => ?_)
  refine k H1 locs1 cells slots _ tys lsR _ (hW.put hk hP1 hD1 rfl rfl ?_ ?_) hS1 hc hs (hL.mono (va_X2.set hk)) (h2.mono (va_X2.set hk))
  · intro k9 h9
    funext j
    show (if (k9 : Int) = (kk : Int) ∧ j = ni.toInt then _ else h.2.2 k9 j) = h.2.2 k9 j
    rw [if_neg (fun z => h9 (by omega))]
  · rw [hrn] at ht
    refine Or.inr (Or.inr (Or.inr (Or.inr (Or.inl ⟨i1, n0, n1, cA, t, _, rfl, ht, fun j hj => ?_⟩))))
    show RV ws sA b (.inr (.inr (if (kk : Int) = (kk : Int) ∧ (j : Int) = ni.toInt then _ else h.2.2 kk j))) (va_rf (va_up g ni.toNatClampNeg (some qx) j))
    by_cases hjn : j = ni.toNatClampNeg
    · subst hjn
      rw [if_pos ⟨rfl, j2⟩]
      simp only [va_up, if_true]
      exact hv0
    · rw [if_neg (fun z => hjn (by omega))]
      simp only [va_up, if_neg hjn]
      exact hg j hj
theorem go_alen {pc : Nat} {ls : ML} {r : List MV} {h : MH} {a : Int} (C : Cx p s m args meth c cc A q) (hdg : decode cc pc = .ok (.arraylength, 1)) (h1 : 1 ≤ m_kd h a) (h8 : m_kd h a ≤ 8)
    (k : Go p l e R s m args below meth c Q w0 D A sA b nL zc zs (m_nx pc 1 ls (.inl (m_ln h a) :: r) h)) : Go p l e R s m args below meth c Q w0 D A sA b nL zc zs (pc, ls, .inr (.inr a) :: r, h) := by
  intro H locs cells slots ws tys lsR stR hW hS hc hs hL hSt
  dsimp only at hW hc hs hL hSt
  obtain ⟨v2, r2, rfl, hv2, h2⟩ := RS.cons hSt
  obtain ⟨kk, qa, ee, rfl, hk, hcr⟩ := hW.get (a := a) (by omega)
  have hv2 := hv2.place hk
  subst hv2
  obtain ⟨n0, n1, cA, t, x, ty, rfl, hx1, ht⟩ := hcr.arr h1 h8
  obtain ⟨hx, hb, -⟩ := C
  refine va_alen (D := D) (cl := vwCl) hx hb hW.1 hW.2.1 kk t hk ht rfl hdg (k H locs cells slots ws tys lsR _ hW hS hc hs hL ⟨⟨_, rfl, ?_⟩, h2⟩)
  show (nI x.1).toInt = _
  rw [hx1, nI_toInt (by omega)]
  omega
theorem go_newa {pc : Nat} {ls : ML} {r : List MV} {h : MH} {n : Int} {at_ : ArrayType} {ty : FieldType} (C : Cx p s m args meth c cc A q) (hdg : decode cc pc = .ok (.newarray at_, 2)) (hn : m_sm n = true) (ha : Jvm.Cond.arrayClass (newarray.typeOf at_) ∈ tb_w) (hty : newarray.typeOf at_ = ty) (hby : componentBytes ty ≤ 8)
    (hcell : ∀ N : Nat, ∃ a0 : vp_A, (∀ cA : ClassId, vp_cell cA a0 = arrV cA N (fun _ => defaultValue ty)) ∧ ∀ (ws : va_W) (tys : List (ClassId × FieldType)) (cA : ClassId) (t : Nat), (N : Int) = n → tys[t]? = some (cA, ty) → CR ws sA b tys (m_kof at_) n (fun _ => 0) (.inl (cA, a0)))
    (hr1 : h.1.1 + 1 ≤ zc + R.cells) (hr2 : h.1.2.1 + n.toNat ≤ zs + R.slots)
    (k : Go p l e R s m args below meth c Q w0 D A sA b nL zc zs (m_nx pc 2 ls (.inr (.inr h.1.1) :: r) (m_al h (m_kof at_) n n.toNat (fun _ => 0)))) : Go p l e R s m args below meth c Q w0 D A sA b nL zc zs (pc, ls, .inl n :: r, h) := by
  intro H locs cells slots ws tys lsR stR hW hS hc hs hL hSt
  dsimp only at hW hc hs hL hSt
  obtain ⟨v2, r2, rfl, hv2, h2⟩ := RS.cons hSt
  obtain ⟨nn, rfl, rfl⟩ := hv2.int
  obtain ⟨hx, hb, hml, hown, hts, hA, -⟩ := C
  simp only [m_sm, Bool.and_eq_true, decide_eq_true_eq] at hn
  have hcl : nn.toNatClampNeg = nn.toInt.toNat := rfl
  obtain ⟨a0, ha0, hcr⟩ := hcell nn.toInt.toNat
  have hby2 : nn.toInt.toNat * componentBytes ty ≤ 536870912 := Nat.le_trans (Nat.mul_le_mul (show nn.toInt.toNat ≤ 100000 by omega) hby) (by decide)
  refine va_newa (D := D) (cl := vwCl) (N' := nn.toInt.toNat) (a0 := a0) hx hb (hts _ ha) hty hW.1 hW.2.1 hW.2.2.1 hS hA ha0 (fun z => by rw [Int32.lt_iff_toInt_lt] at z; have : (0 : Int32).toInt = 0 := rfl; omega) hcl hby2 (by omega) (by omega) hdg (fun qn cA H1 hK1 hP1 hD1 hS1 => ?_)
  have hlen : ws.length = h.1.1 := hW.2.2.2.1
  refine k H1 locs _ _ _ _ lsR _ (hW.new hK1 (fun t q ht => by rw [List.getElem?_append_left (List.getElem?_eq_some_iff.mp ht).1]; exact ht) hP1 hD1 (hcr _ _ cA tys.length (by omega) (by rw [List.getElem?_append_right (Nat.le_refl _)]; simp))) hS1 (by show cells + 1 + zc = h.1.1 + 1; omega) (by show slots + nn.toInt.toNat + zs = h.1.2.1 + nn.toInt.toNat; omega) (hL.mono va_X2.push) ⟨?_, h2.mono va_X2.push⟩
  exact Or.inr (Or.inr (Or.inr ⟨ws.length, qn, _, by rw [hlen], by rw [List.getElem?_append_right (Nat.le_refl _)]; simp; rfl, rfl⟩))
end GoJ
