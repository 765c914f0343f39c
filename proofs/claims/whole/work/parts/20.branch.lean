theorem m_lt32 {x y : Int32} : (x < y) ↔ x.toInt < y.toInt := Int32.lt_iff_toInt_lt
theorem m_le32 {x y : Int32} : (x ≤ y) ↔ x.toInt ≤ y.toInt := Int32.le_iff_toInt_le
theorem m_eq32 {x y : Int32} : (x = y) ↔ x.toInt = y.toInt := Int32.toInt_inj.symm
theorem m_at_ok {pc : Nat} {off : Int} (h : 0 ≤ (pc : Int) + off) : (pc : Int) + off = ((m_at pc off : Nat) : Int) := by
  unfold m_at
  omega
section GoN
variable {p : Program} {l : Launch} {e : Env} {R : Room} {s : State} {m : MethodId} {args : Array Value} {below : List Frame} {meth : Method} {c : Code} {Q : State → Prop} {cc : ByteArray} {w0 : va_W} {D : va_G} {A : Nat → Prop} {sA : Nat → Nat} {b nL zc zs : Nat} {q : MI}
theorem go_goto (C : Cx p s m args meth c cc A q) {pc : Nat} {off : Int} {ls : ML} {r : List MV} {h : MH} (hdg : decode cc pc = .ok (.goto off, 3)) (h0 : 0 ≤ (pc : Int) + off) (k : Go p l e R s m args below meth c Q w0 D A sA b nL zc zs (m_at pc off, ls, r, h)) : Go p l e R s m args below meth c Q w0 D A sA b nL zc zs (pc, ls, r, h) := by
  intro H locs cells slots ws tys lsR stR hW hS hc hs hL hSt
  exact lv_goto C.1 C.2.1 hdg (m_at_ok h0) (k H locs cells slots ws tys lsR _ hW hS hc hs hL hSt)
theorem go_ic (C : Cx p s m args meth c cc A q) {pc : Nat} {off : Int} {cd : Jvm.ClassFile.Cond} {ls : ML} {r : List MV} {h : MH} {x y : Int} (hdg : decode cc pc = .ok (.if_icmp cd off, 3)) (h0 : 0 ≤ (pc : Int) + off)
    (kt : m_if cd x y = true → Go p l e R s m args below meth c Q w0 D A sA b nL zc zs (m_at pc off, ls, r, h)) (kf : ¬ m_if cd x y = true → Go p l e R s m args below meth c Q w0 D A sA b nL zc zs (pc + 3, ls, r, h)) : Go p l e R s m args below meth c Q w0 D A sA b nL zc zs (pc, ls, .inl y :: .inl x :: r, h) := by
  intro H locs cells slots ws tys lsR stR hW hS hc hs hL hSt
  dsimp only at hW hc hs hL hSt
  obtain ⟨v, r1, rfl, hv, h1⟩ := RS.cons hSt
  obtain ⟨v2, r2, rfl, hv2, h2⟩ := RS.cons h1
  obtain ⟨ny, rfl, rfl⟩ := hv.int
  obtain ⟨nx, rfl, rfl⟩ := hv2.int
  obtain ⟨hx, hb, -⟩ := C
  have KT : m_if cd nx.toInt ny.toInt = true → W p l e R s m args below meth c H locs cells slots Q (F0 m (m_at pc off) lsR r2) := fun z => kt z H locs cells slots ws tys lsR _ hW hS hc hs hL h2
  have KF : (¬ m_if cd nx.toInt ny.toInt = true) → W p l e R s m args below meth c H locs cells slots Q (F0 m (pc + 3) lsR r2) := fun z => kf z H locs cells slots ws tys lsR _ hW hS hc hs hL h2
  have ht := m_at_ok h0
  cases cd
  · exact lv_icmp_eq hx hb hdg ht (fun z => KT (decide_eq_true (m_eq32.mp z))) (fun z => KF (fun w => z (m_eq32.mpr (of_decide_eq_true w))))
  · exact lv_icmp_ne hx hb hdg ht (fun z => KT (by simp only [m_if, Bool.not_eq_true', decide_eq_false_iff_not]; exact fun w => z (m_eq32.mpr w))) (fun z => KF (by simp only [m_if, Bool.not_eq_true', decide_eq_false_iff_not]; exact fun w => w (m_eq32.mp z)))
  · exact lv_icmp_lt hx hb hdg ht (fun z => KT (decide_eq_true (m_lt32.mp z))) (fun z => KF (fun w => z (m_lt32.mpr (of_decide_eq_true w))))
  · exact lv_icmp_ge hx hb hdg ht (fun z => KT (by simp only [m_if, Bool.not_eq_true', decide_eq_false_iff_not]; have := m_le32.mp z; omega)) (fun z => KF (by simp only [m_if, Bool.not_eq_true', decide_eq_false_iff_not]; exact fun w => z (m_le32.mpr (by omega))))
  · exact lv_icmp_gt hx hb hdg ht (fun z => KT (decide_eq_true (m_lt32.mp z))) (fun z => KF (fun w => z (m_lt32.mpr (of_decide_eq_true w))))
  · exact lv_icmp_le hx hb hdg ht (fun z => KT (by simp only [m_if, Bool.not_eq_true', decide_eq_false_iff_not]; have := m_le32.mp z; omega)) (fun z => KF (by simp only [m_if, Bool.not_eq_true', decide_eq_false_iff_not]; exact fun w => z (m_le32.mpr (by omega))))
theorem go_if (C : Cx p s m args meth c cc A q) {pc : Nat} {off : Int} {cd : Jvm.ClassFile.Cond} {ls : ML} {r : List MV} {h : MH} {x : Int} (hdg : decode cc pc = .ok (.ifCond cd off, 3)) (h0 : 0 ≤ (pc : Int) + off)
    (kt : m_if cd x 0 = true → Go p l e R s m args below meth c Q w0 D A sA b nL zc zs (m_at pc off, ls, r, h)) (kf : ¬ m_if cd x 0 = true → Go p l e R s m args below meth c Q w0 D A sA b nL zc zs (pc + 3, ls, r, h)) : Go p l e R s m args below meth c Q w0 D A sA b nL zc zs (pc, ls, .inl x :: r, h) := by
  intro H locs cells slots ws tys lsR stR hW hS hc hs hL hSt
  dsimp only at hW hc hs hL hSt
  obtain ⟨v2, r2, rfl, hv2, h2⟩ := RS.cons hSt
  obtain ⟨nx, rfl, rfl⟩ := hv2.int
  obtain ⟨hx, hb, -⟩ := C
  have KT : m_if cd nx.toInt 0 = true → W p l e R s m args below meth c H locs cells slots Q (F0 m (m_at pc off) lsR r2) := fun z => kt z H locs cells slots ws tys lsR _ hW hS hc hs hL h2
  have KF : (¬ m_if cd nx.toInt 0 = true) → W p l e R s m args below meth c H locs cells slots Q (F0 m (pc + 3) lsR r2) := fun z => kf z H locs cells slots ws tys lsR _ hW hS hc hs hL h2
  have ht := m_at_ok h0
  have e0 : (0 : Int32).toInt = 0 := rfl
  cases cd
  · exact lv_if_eq hx hb hdg ht (fun z => KT (decide_eq_true (m_eq32.mp z))) (fun z => KF (fun w => z (m_eq32.mpr (of_decide_eq_true w))))
  · exact lv_if_ne hx hb hdg ht (fun z => KT (by simp only [m_if, Bool.not_eq_true', decide_eq_false_iff_not]; exact fun w => z (m_eq32.mpr w))) (fun z => KF (by simp only [m_if, Bool.not_eq_true', decide_eq_false_iff_not]; exact fun w => w (m_eq32.mp z)))
  · exact lv_if_lt hx hb hdg ht (fun z => KT (decide_eq_true (m_lt32.mp z))) (fun z => KF (fun w => z (m_lt32.mpr (of_decide_eq_true w))))
  · exact lv_if_ge hx hb hdg ht (fun z => KT (by simp only [m_if, Bool.not_eq_true', decide_eq_false_iff_not]; have := m_le32.mp z; omega)) (fun z => KF (by simp only [m_if, Bool.not_eq_true', decide_eq_false_iff_not]; exact fun w => z (m_le32.mpr (by omega))))
  · exact lv_if_gt hx hb hdg ht (fun z => KT (decide_eq_true (m_lt32.mp z))) (fun z => KF (fun w => z (m_lt32.mpr (of_decide_eq_true w))))
  · exact lv_if_le hx hb hdg ht (fun z => KT (by simp only [m_if, Bool.not_eq_true', decide_eq_false_iff_not]; have := m_le32.mp z; omega)) (fun z => KF (by simp only [m_if, Bool.not_eq_true', decide_eq_false_iff_not]; exact fun w => z (m_le32.mpr (by omega))))
theorem go_nn (C : Cx p s m args meth c cc A q) {pc : Nat} {off : Int} {ls : ML} {r : List MV} {h : MH} {a : Int} (hdg : decode cc pc = .ok (.ifnonnull off, 3)) (h0 : 0 ≤ (pc : Int) + off)
    (kf : a = -1 → Go p l e R s m args below meth c Q w0 D A sA b nL zc zs (pc + 3, ls, r, h)) (kt : ¬ a = -1 → Go p l e R s m args below meth c Q w0 D A sA b nL zc zs (m_at pc off, ls, r, h)) : Go p l e R s m args below meth c Q w0 D A sA b nL zc zs (pc, ls, .inr (.inr a) :: r, h) := by
  intro H locs cells slots ws tys lsR stR hW hS hc hs hL hSt
  dsimp only at hW hc hs hL hSt
  obtain ⟨v2, r2, rfl, hv2, h2⟩ := RS.cons hSt
  obtain ⟨hx, hb, -⟩ := C
  rcases hv2.ref with ⟨rfl, ha⟩ | ⟨q9, rfl, ha⟩
  · exact lv_ifnonnullN hx hb hdg (kf ha H locs cells slots ws tys lsR _ hW hS hc hs hL h2)
  · exact lv_ifnonnull hx hb hdg (m_at_ok h0) (kt ha H locs cells slots ws tys lsR _ hW hS hc hs hL h2)
end GoN
