/-! SWITCHES, and what the machine itself gives: Object's making, the copy of rows, max and min -/
theorem wn_cp1 : Jvm.Cond.native arraycopyName ∈ tb_w := t_in_ok (by decide +kernel)
theorem wn_cp2 : Jvm.Cond.static arraycopyName ∈ tb_w := t_in_ok (by decide +kernel)
theorem wn_cp3 : Jvm.Cond.initialized "java/lang/System" ∈ tb_w := t_in_ok (by decide +kernel)
theorem wn_mx1 : Jvm.Cond.static Lib.Math.max.name ∈ tb_w := t_in_ok (by decide +kernel)
theorem wn_mx2 : Jvm.Cond.initialized "java/lang/Math" ∈ tb_w := t_in_ok (by decide +kernel)
theorem wn_mx3 : Jvm.Cond.code Lib.Math.max.name Lib.Math.max.code 2 (some .int) ∈ tb_w := t_in_ok (by decide +kernel)
theorem wn_mn1 : Jvm.Cond.static Lib.Math.min.name ∈ tb_w := t_in_ok (by decide +kernel)
theorem wn_mn3 : Jvm.Cond.code Lib.Math.min.name Lib.Math.min.code 2 (some .int) ∈ tb_w := t_in_ok (by decide +kernel)
theorem wn_ob1 : Jvm.Cond.instanceMethod Lib.objectInit ∈ tb_w := t_in_ok (by decide +kernel)
theorem wn_ob2 : Jvm.Cond.code Lib.objectInit ⟨#[0xb1]⟩ 1 none ∈ tb_w := t_in_ok (by decide +kernel)
theorem m_sum_cons (v : MV) (r : List MV) : m_sum (v :: r) = (match v with | .inr (.inl _) => 2 | _ => 1) + m_sum r := by
  rcases v with v | v | v <;> rfl
section GoE
variable {p : Program} {l : Launch} {e : Env} {R : Room} {s : State} {m : MethodId} {args : Array Value} {below : List Frame} {meth : Method} {c : Code} {Q : State → Prop} {cc : ByteArray} {w0 : va_W} {D : va_G} {A : Nat → Prop} {sA : Nat → Nat} {b nL zc zs : Nat} {q : MI}
/-- a tableswitch: where it goes -/
def sw_t (pc : Nat) (x dflt : Int) : Int → List Int → Nat
  | _, [] => m_at pc dflt
  | lo, o :: r => if x = lo then m_at pc o else sw_t pc x dflt (lo + 1) r
theorem m_swi_t (k : Nat → MR) (pc : Nat) (x dflt : Int) : ∀ (offs : List Int) (lo : Int), m_swi k pc x dflt lo offs = k (sw_t pc x dflt lo offs)
  | [], lo => rfl
  | o :: r, lo => by
    unfold m_swi sw_t
    split
    · rfl
    · exact m_swi_t k pc x dflt r (lo + 1)
theorem sw_t_in {pc : Nat} {x dflt : Int} : ∀ (offs : List Int) (lo : Int), lo ≤ x → x < lo + (offs.length : Int) → ∃ o, offs[(x - lo).toNat]? = some o ∧ sw_t pc x dflt lo offs = m_at pc o
  | [], lo, h1, h2 => by simp at h2; omega
  | o :: r, lo, h1, h2 => by
    unfold sw_t
    by_cases hx : x = lo
    · rw [if_pos hx]
      exact ⟨o, by rw [show (x - lo).toNat = 0 by omega]; rfl, rfl⟩
    · rw [if_neg hx]
      simp only [List.length_cons] at h2
      obtain ⟨o', e1, e2⟩ := sw_t_in (pc := pc) (x := x) (dflt := dflt) r (lo + 1) (by omega) (by omega)
      refine ⟨o', ?_, e2⟩
      rw [show (x - lo).toNat = (x - (lo + 1)).toNat + 1 by omega]
      exact e1
theorem sw_t_out {pc : Nat} {x dflt : Int} : ∀ (offs : List Int) (lo : Int), x < lo ∨ lo + (offs.length : Int) ≤ x → sw_t pc x dflt lo offs = m_at pc dflt
  | [], lo, h => rfl
  | o :: r, lo, h => by
    unfold sw_t
    simp only [List.length_cons] at h
    rw [if_neg (by omega)]
    exact sw_t_out r (lo + 1) (by omega)
theorem go_tsw (C : Cx p s m args meth c cc A q) {pc len : Nat} {dflt lo hi : Int} {offs : Array Int} {ls : ML} {r : List MV} {h : MH} {x : Int} (hdg : decode cc pc = .ok (.tableswitch dflt lo hi offs, len)) (h0 : offs.toList.all (fun o => decide (0 ≤ (pc : Int) + o)) = true) (hd : 0 ≤ (pc : Int) + dflt) (hl : (offs.toList.length : Int) = hi - lo + 1)
    (k : Go p l e R s m args below meth c Q w0 D A sA b nL zc zs (sw_t pc x dflt lo offs.toList, ls, r, h)) : Go p l e R s m args below meth c Q w0 D A sA b nL zc zs (pc, ls, .inl x :: r, h) := by
  intro H locs cells slots ws tys lsR stR hW hS hc hs hL hSt
  dsimp only at hW hc hs hL hSt
  obtain ⟨v2, r2, rfl, hv2, h2⟩ := RS.cons hSt
  obtain ⟨nx, rfl, rfl⟩ := hv2.int
  obtain ⟨hx, hb, -⟩ := C
  have K := k H locs cells slots ws tys lsR _ hW hS hc hs hL h2
  by_cases hin : lo ≤ nx.toInt ∧ nx.toInt ≤ hi
  · obtain ⟨o, e1, e2⟩ := sw_t_in (pc := pc) (dflt := dflt) offs.toList lo hin.1 (by omega)
    rw [e2] at K
    have ho : 0 ≤ (pc : Int) + o := of_decide_eq_true (List.all_eq_true.mp h0 o (List.mem_of_getElem? e1))
    exact lv_tableIn hx hb hdg (by omega) (by omega) (by rw [← Array.getElem?_toList]; exact e1) (m_at_ok ho) K
  · rw [sw_t_out offs.toList lo (by omega)] at K
    exact lv_tableOut hx hb hdg (by omega) (m_at_ok hd) K
/-- a lookupswitch: where it goes -/
def sw_l (pc : Nat) (x dflt : Int) : List (Int × Int) → Nat
  | [] => m_at pc dflt
  | o :: r => if x = o.1 then m_at pc o.2 else sw_l pc x dflt r
theorem m_lsw_t (k : Nat → MR) (pc : Nat) (x dflt : Int) : ∀ (ps : List (Int × Int)), m_lsw k pc x dflt ps = k (sw_l pc x dflt ps)
  | [] => rfl
  | o :: r => by
    unfold m_lsw sw_l
    split
    · rfl
    · exact m_lsw_t k pc x dflt r
theorem sw_l_ok {pc : Nat} {x dflt : Int} : ∀ (ps : List (Int × Int)), ps.all (fun o => decide (0 ≤ (pc : Int) + o.2)) = true → 0 ≤ (pc : Int) + dflt → (pc : Int) + Op.lookupswitch.offset ps dflt x = ((sw_l pc x dflt ps : Nat) : Int)
  | [], h, hd => by rw [Op.lookupswitch.offset_nil]; exact m_at_ok hd
  | (a, o) :: r, h, hd => by
    simp only [List.all_cons, Bool.and_eq_true, decide_eq_true_eq] at h
    rw [Op.lookupswitch.offset_cons]
    unfold sw_l
    by_cases hx : x = a
    · rw [if_pos hx.symm, if_pos hx]
      exact m_at_ok h.1
    · rw [if_neg (fun z => hx z.symm), if_neg hx]
      exact sw_l_ok r h.2 hd
theorem go_lsw (C : Cx p s m args meth c cc A q) {pc len : Nat} {dflt : Int} {ps : Array (Int × Int)} {ls : ML} {r : List MV} {h : MH} {x : Int} (hdg : decode cc pc = .ok (.lookupswitch dflt ps, len)) (h0 : ps.toList.all (fun o => decide (0 ≤ (pc : Int) + o.2)) = true) (hd : 0 ≤ (pc : Int) + dflt) (hp : (ps.toList.zip (ps.toList.drop 1)).all (fun (a, next) => a.1 < next.1) = true)
    (k : Go p l e R s m args below meth c Q w0 D A sA b nL zc zs (sw_l pc x dflt ps.toList, ls, r, h)) : Go p l e R s m args below meth c Q w0 D A sA b nL zc zs (pc, ls, .inl x :: r, h) := by
  intro H locs cells slots ws tys lsR stR hW hS hc hs hL hSt
  dsimp only at hW hc hs hL hSt
  obtain ⟨v2, r2, rfl, hv2, h2⟩ := RS.cons hSt
  obtain ⟨nx, rfl, rfl⟩ := hv2.int
  obtain ⟨hx, hb, -⟩ := C
  exact lv_lookup hx hb hdg hp rfl (sw_l_ok ps.toList h0 hd) (k H locs cells slots ws tys lsR _ hW hS hc hs hL h2)
theorem RLo.sz {ws : va_W} {ls : ML} {lsR : Array Slot} (h : RLo ws sA b nL ls lsR) : lsR.size = nL := by
  obtain ⟨-, lv, h1, -⟩ := h
  exact h1.1
theorem go_oi (C : Cx p s m args meth c cc A q) {pc i : Nat} {ls : ML} {r : List MV} {h : MH} {a : Int} (hl : m_l (m_M q.1).2.2 i = some 1000) (hdg : decode cc pc = .ok (.invokespecial i, 3)) (hf : 1 ≤ R.frames) (hlo : 64 ≤ R.locals) (hsum : m_sum r ≤ 8) (hnL : nL = q.2.2.2.1) (ha : a ≠ -1)
    (k : Go p l e R s m args below meth c Q w0 D A sA b nL zc zs (pc + 3, ls, r, h)) : Go p l e R s m args below meth c Q w0 D A sA b nL zc zs (pc, ls, .inr (.inr a) :: r, h) := by
  intro H locs cells slots ws tys lsR stR hW hS hc hs hL hSt
  dsimp only at hW hc hs hL hSt
  obtain ⟨v2, r2, rfl, hv2, h2⟩ := RS.cons hSt
  obtain ⟨hx, hb, hml, hown, hts, -⟩ := C
  have hlk := lkI_all q.1 _ (m_l_mem hl)
  have hm : m_mj 1000 = none := rfl
  unfold LkI at hlk
  dsimp only at hlk
  rw [hm] at hlk
  rcases hv2.ref with ⟨rfl, z⟩ | ⟨q9, rfl, -⟩
  · exact absurd z ha
  · refine W.objInit hx hb hown (hts _ hlk.2) (hts _ wn_ob1) (hts _ wn_ob2) (g := F0 m pc lsR (.ref q9 :: r2)) rfl (by show lsR.size = _; rw [hL.sz, hml, hnL]) rfl hdg hf ?_ (k H locs cells slots ws tys lsR _ hW hS hc hs hL h2)
    show 2 * 0 + (r2.map fun v => v.category).sum + 12 ≤ R.locals
    rw [h2.sum]
    omega
theorem go_mx (C : Cx p s m args meth c cc A q) {pc i : Nat} {ls : ML} {r : List MV} {h : MH} {x y : Int} (hl : m_l (m_M q.1).2.1 i = some 1004) (hdg : decode cc pc = .ok (.invokestatic i, 3)) (hf : 1 ≤ R.frames) (hlo : 64 ≤ R.locals) (hr1 : h.1.1 ≤ zc + R.cells) (hr2 : h.1.2.1 ≤ zs + R.slots) (hsum : m_sum r ≤ 8) (hnL : nL = q.2.2.2.1)
    (k : Go p l e R s m args below meth c Q w0 D A sA b nL zc zs (pc + 3, ls, .inl (if x < y then y else x) :: r, h)) : Go p l e R s m args below meth c Q w0 D A sA b nL zc zs (pc, ls, .inl y :: .inl x :: r, h) := by
  intro H locs cells slots ws tys lsR stR hW hS hc hs hL hSt
  dsimp only at hW hc hs hL hSt
  obtain ⟨v1, r1, rfl, hv1, h1⟩ := RS.cons hSt
  obtain ⟨v2, r2, rfl, hv2, h2⟩ := RS.cons h1
  obtain ⟨ny, rfl, rfl⟩ := hv1.int
  obtain ⟨nx, rfl, rfl⟩ := hv2.int
  obtain ⟨hx, hb, hml, hown, hts, -⟩ := C
  have hlk := lkS_all q.1 _ (m_l_mem hl)
  have hm : m_mj 1004 = none := rfl
  unfold LkS at hlk
  dsimp only at hlk
  rw [hm] at hlk
  rcases hlk with ⟨z, -⟩ | ⟨-, hlk⟩ | ⟨z, -⟩
  · omega
  · refine va_mmax hx hb (by rw [hL.sz, hml, hnL]) hown (hts _ hlk) (hts _ wn_mx1) (hts _ wn_mx2) (hts _ wn_mx3) hf (by rw [h2.sum]; omega) (by omega) (by omega) hdg (k H locs cells slots ws tys lsR _ hW hS hc hs hL ⟨⟨_, rfl, ?_⟩, h2⟩)
    by_cases z : nx < ny
    · rw [if_pos z, if_pos (m_lt32.mp z)]
    · rw [if_neg z, if_neg (fun w => z (m_lt32.mpr w))]
  · omega
theorem go_mn (C : Cx p s m args meth c cc A q) {pc i : Nat} {ls : ML} {r : List MV} {h : MH} {x y : Int} (hl : m_l (m_M q.1).2.1 i = some 1005) (hdg : decode cc pc = .ok (.invokestatic i, 3)) (hf : 1 ≤ R.frames) (hlo : 64 ≤ R.locals) (hr1 : h.1.1 ≤ zc + R.cells) (hr2 : h.1.2.1 ≤ zs + R.slots) (hsum : m_sum r ≤ 8) (hnL : nL = q.2.2.2.1)
    (k : Go p l e R s m args below meth c Q w0 D A sA b nL zc zs (pc + 3, ls, .inl (if y < x then y else x) :: r, h)) : Go p l e R s m args below meth c Q w0 D A sA b nL zc zs (pc, ls, .inl y :: .inl x :: r, h) := by
  intro H locs cells slots ws tys lsR stR hW hS hc hs hL hSt
  dsimp only at hW hc hs hL hSt
  obtain ⟨v1, r1, rfl, hv1, h1⟩ := RS.cons hSt
  obtain ⟨v2, r2, rfl, hv2, h2⟩ := RS.cons h1
  obtain ⟨ny, rfl, rfl⟩ := hv1.int
  obtain ⟨nx, rfl, rfl⟩ := hv2.int
  obtain ⟨hx, hb, hml, hown, hts, -⟩ := C
  have hlk := lkS_all q.1 _ (m_l_mem hl)
  have hm : m_mj 1005 = none := rfl
  unfold LkS at hlk
  dsimp only at hlk
  rw [hm] at hlk
  rcases hlk with ⟨z, -⟩ | ⟨z, -⟩ | ⟨-, hlk⟩
  · omega
  · omega
  · refine va_mmin hx hb (by rw [hL.sz, hml, hnL]) hown (hts _ hlk) (hts _ wn_mn1) (hts _ wn_mx2) (hts _ wn_mn3) hf (by rw [h2.sum]; omega) (by omega) (by omega) hdg (k H locs cells slots ws tys lsR _ hW hS hc hs hL ⟨⟨_, rfl, ?_⟩, h2⟩)
    by_cases z : ny < nx
    · rw [if_pos z, if_pos (m_lt32.mp z)]
    · rw [if_neg z, if_neg (fun w => z (m_lt32.mpr w))]
theorem go_cp (C : Cx p s m args meth c cc A q) {pc i : Nat} {ls : ML} {r : List MV} {h : MH} {a b2 i0 j0 n0 : Int} (hl : m_l (m_M q.1).2.1 i = some 1001) (hdg : decode cc pc = .ok (.invokestatic i, 3)) (hf : 1 ≤ R.frames) (hlo : 64 ≤ R.locals) (hsum : m_sum r ≤ 8) (hnL : nL = q.2.2.2.1)
    (ka : m_kd h a = 1) (kb : m_kd h b2 = 1) (h1 : 0 ≤ i0) (h2 : 0 ≤ j0) (h3 : 0 ≤ n0) (h4 : i0 + n0 ≤ m_ln h a) (h5 : j0 + n0 ≤ m_ln h b2)
    (k : Go p l e R s m args below meth c Q w0 D A sA b nL zc zs (pc + 3, ls, r, m_cpy h a i0 b2 j0 n0)) : Go p l e R s m args below meth c Q w0 D A sA b nL zc zs (pc, ls, .inl n0 :: .inl j0 :: .inr (.inr b2) :: .inl i0 :: .inr (.inr a) :: r, h) := by
  intro H locs cells slots ws tys lsR stR hW hS hc hs hL hSt
  dsimp only at hW hc hs hL hSt
  obtain ⟨v1, r1, rfl, hv1, t1⟩ := RS.cons hSt
  obtain ⟨v2, r2, rfl, hv2, t2⟩ := RS.cons t1
  obtain ⟨v3, r3, rfl, hv3, t3⟩ := RS.cons t2
  obtain ⟨v4, r4, rfl, hv4, t4⟩ := RS.cons t3
  obtain ⟨v5, r5, rfl, hv5, t5⟩ := RS.cons t4
  obtain ⟨nn, rfl, rfl⟩ := hv1.int
  obtain ⟨nj, rfl, rfl⟩ := hv2.int
  obtain ⟨ni, rfl, rfl⟩ := hv4.int
  obtain ⟨p0, q0, e0, rfl, hk0, hcr0⟩ := hW.get (a := a) (by omega)
  obtain ⟨p1, q1, e1, rfl, hk1, hcr1⟩ := hW.get (a := b2) (by omega)
  have hv5 := hv5.place hk0
  subst hv5
  have hv3 := hv3.place hk1
  subst hv3
  obtain ⟨a1, a2, c0, ta, f, rfl, hta, hf0⟩ := hcr0.ints ka
  obtain ⟨b1, b3, c1, tb, g, rfl, htb, hg0⟩ := hcr1.ints kb
  obtain ⟨hx, hb, hml, hown, hts, -⟩ := C
  have hlk := lkS_all q.1 _ (m_l_mem hl)
  have hm : m_mj 1001 = none := rfl
  unfold LkS at hlk
  dsimp only at hlk
  rw [hm] at hlk
  have hz0 : (0 : Int32).toInt = 0 := rfl
  have en : (nn.toNatClampNeg : Int) = nn.toInt := by show ((nn.toInt.toNat : Nat) : Int) = _; omega
  have ei : (ni.toNatClampNeg : Int) = ni.toInt := by show ((ni.toInt.toNat : Nat) : Int) = _; omega
  have ej : (nj.toNatClampNeg : Int) = nj.toInt := by show ((nj.toInt.toNat : Nat) : Int) = _; omega
  rcases hlk with ⟨-, hlk⟩ | ⟨z, -⟩ | ⟨z, -⟩
  · refine va_copyi (D := D) (cl := vwCl) hx hb (by rw [hL.sz, hml, hnL]) hown (hts _ hlk) (hts _ wn_cp1) (hts _ wn_cp2) (hts _ wn_cp3) hW.1 hW.2.1 hW.2.2.1 hS p0 p1 ta tb hk0 hk1 hta htb rfl (fun z => by have := m_lt32.mp z; omega) (fun z => by have := m_lt32.mp z; omega) (fun z => by have := m_lt32.mp z; omega) (by omega) (by omega) (fun _ _ => rfl) hf ?_ hdg (fun H1 locs1 hP1 hD1 hS1 => ?_)
    · rw [t5.sum]
      have hw : nativeFrameWords "java/lang/System" "arraycopy" 5 = 7 := by decide +kernel
      rw [hw]
      omega
    · have hX := va_X2.set (e1 := .inl (c1, (m_ln h ↑p1).toNat, .inl (va_cpy f g ni.toNatClampNeg nj.toNatClampNeg nn.toNatClampNeg))) hk1
      refine k H1 locs1 cells slots _ tys lsR _ (hW.put hk1 hP1 hD1 rfl rfl ?_ ?_) hS1 hc hs (hL.mono hX) (t5.mono hX)
      · intro k9 h9
        funext j
        show (if (k9 : Int) = (p1 : Int) ∧ nj.toInt ≤ j ∧ j < nj.toInt + nn.toInt then h.2.2 p0 (ni.toInt + (j - nj.toInt)) else h.2.2 k9 j) = h.2.2 k9 j
        rw [if_neg (fun z => h9 (by omega))]
      · refine Or.inl ⟨kb, b1, b3, c1, tb, _, rfl, htb, fun j hj => ?_⟩
        show (va_cpy f g ni.toNatClampNeg nj.toNatClampNeg nn.toNatClampNeg j).toInt = (if (p1 : Int) = (p1 : Int) ∧ nj.toInt ≤ (j : Int) ∧ (j : Int) < nj.toInt + nn.toInt then h.2.2 p0 (ni.toInt + ((j : Int) - nj.toInt)) else h.2.2 p1 j)
        unfold va_cpy
        by_cases hz : nj.toNatClampNeg ≤ j ∧ j < nj.toNatClampNeg + nn.toNatClampNeg
        · rw [if_pos hz, if_pos ⟨rfl, by omega, by omega⟩, hf0 _ (by omega)]
          exact congrArg (h.2.2 (p0 : Int)) (by omega)
        · rw [if_neg hz, if_neg (fun w => hz (by omega)), hg0 j hj]
  · omega
  · omega
end GoE
