section GoD
variable {p : Program} {l : Launch} {e : Env} {R : Room} {s : State} {m : MethodId} {args : Array Value} {below : List Frame} {meth : Method} {c : Code} {Q : State → Prop} {cc : ByteArray} {w0 : va_W} {D : va_G} {A : Nat → Prop} {sA : Nat → Nat} {b nL zc zs : Nat} {q : MI}
theorem go_ci {xs : Int → Int} {L : Int} {n d2 i k : Nat} (hSIM : SIM xs L l n) (C : Cx p s m args meth c cc A q) (hE : EV sA b A xs L s) {pc : Nat} {ls : ML} {st as r : List MV} {h : MH} {q2 : MJ} {res : MR} (hdg : decode cc pc = .ok (.invokespecial i, 3)) (hl : m_l (m_M q.1).2.2 i = some k) (hj : m_mj k = some q2) (hargs : m_args q2.1.2.2.1 [] st = some (as, r)) (hres : m_run xs L n d2 q2.1 0 (m_ent q2.1.2.2.2.1 as) [] h = res) (hok : m_ok res.2 = true) (hsum : m_sum r ≤ 8) (hent : (m_entA as).length ≤ q2.1.2.2.2.1) (hrc : m_rcv q2.1.1 as h = true)
    (hf : d2 + 1 ≤ R.frames) (hlo : 64 * (d2 + 1) ≤ R.locals) (hr1 : res.2.1.1 ≤ zc + R.cells) (hr2 : res.2.1.2.1 ≤ zs + R.slots) (hnL : nL = q.2.2.2.1)
    (k9 : Go p l e R s m args below meth c Q w0 D A sA b nL zc zs (pc + 3, ls, res.1.toList ++ r, res.2)) : Go p l e R s m args below meth c Q w0 D A sA b nL zc zs (pc, ls, st, h) := by
  have hmo : Mo h res.2 := by rw [← hres]; exact m_run_mo _ _ _ _ _ _ _
  intro H locs cells slots ws tys lsR stR hW hS hc hs hL hSt
  dsimp only at hW hc hs hL hSt
  obtain ⟨pR, rR, rfl, hr, has, hlen⟩ := m_args_rs (accR := []) hargs hSt trivial
  rw [List.append_nil] at has
  have hlk := lkI_all q.1 _ (m_l_mem hl)
  unfold LkI at hlk
  dsimp only at hlk
  rw [hj] at hlk
  obtain ⟨hY, k1, k2, k3, k3b, k4, k5⟩ := hlk
  -- the receiver
  unfold m_rcv at hrc
  split at hrc
  · rename_i a as'
    have hkd := m_is_ok hrc
    obtain ⟨kk, qa, ee, rfl, hk, hcr⟩ := hW.get (a := a) (by omega)
    obtain ⟨fs, rfl, -, -⟩ := hcr.obj hkd
    obtain ⟨v, aR', hpe, hv, hRS'⟩ := RS.cons has
    have hv := hv.place hk
    subst hv
    have hpR : pR = aR'.reverse ++ [.ref qa] := by
      have := congrArg List.reverse hpe
      simpa using this
    obtain ⟨hx, hb, hml, hown, hts, hA, -⟩ := id C
    have hM := MET (l := l) hSIM (mj_v hj) hY hres hok hent D sA b ws tys (.ref qa :: aR') H.size (by rw [← hpe]; exact has)
    have hal : aR'.length + 1 = q2.1.2.2.1 := by
      have := congrArg List.length hpR
      simp at this
      omega
    have hsz : lsR.size = q.2.2.2.1 := by
      obtain ⟨-, lv, h1, -⟩ := hL
      rw [← hnL]
      exact h1.1
    have hcc : cells + (res.2.1.1 - h.1.1) ≤ R.cells := by have := hmo.1; omega
    have hss : slots + (res.2.1.2.1 - h.1.2.1) ≤ R.slots := by have := hmo.2.1; omega
    have hG : GoodIn tb_w (Jvm.Cond.code q2.2.1 q2.2.2.1 q2.1.2.2.2.1 none :: tb_w) := by
      intro w hw
      rcases List.mem_cons.mp hw with rfl | hw
      · rw [← k3b]
        exact ⟨hY.2.2.1, (tb_good _ hY.2.2.1).2⟩
      · exact ⟨hw, (tb_good _ hw).2⟩
    rw [k3b] at hM
    have hlo2 : 8 + (q2.1.2.2.2.1 + 11) + 64 * d2 ≤ R.locals := by
      have := hY.2.2.2.2.2.2.2
      omega
    have hpre : PreS s H (MPc D sA b xs L h ws tys H.size (.ref qa :: aR')) (.ref qa :: aR') := ⟨MPc.blind, fun U hU hWm => ⟨rfl, by rw [hU], by rw [hU]; exact ((hW.base).wk (fun _ _ _ _ => trivial)).moved hWm.alike, hE.call (D := D) hU hWm hS hW.2.2.1 hA⟩⟩
    rcases k1 with k1 | k1
    · exact go_back C hW hS hc hs hmo.1 hmo.2.1 hL hr (st0 := pR ++ rR) (va_runI (bytes := q2.2.2.1) (maxL := q2.1.2.2.2.1) (b := qa) (As := aR') (rest := rR) (own := Rn q.1) (index := i) (n := q2.1.2.2.1 - 1) ⟨hx, hb, hml, hown, hts⟩ hM ⟨callB_of _ hts hG rfl rfl rfl (hts _ hY.2.2.2.1) (hts _ k1) ⟨hY.2.2.2.2.1.1, hY.2.2.2.2.1.2, k4⟩ ⟨hf, hlo2⟩, k3, hts _ k2⟩ hpre rfl (by omega) hsz (show pR ++ rR = aR'.reverse ++ .ref qa :: rR by rw [hpR, List.append_assoc]; rfl) (lv_room (by rw [hr.sum]; exact hsum)) hdg ⟨hcc, hss⟩) k9
    · exact go_back C hW hS hc hs hmo.1 hmo.2.1 hL hr (st0 := pR ++ rR) (va_runIN (bytes := q2.2.2.1) (maxL := q2.1.2.2.2.1) (b := qa) (As := aR') (rest := rR) (own := Rn q.1) (host := RX11) (index := i) (n := q2.1.2.2.1 - 1) ⟨hx, hb, hml, hown, hts⟩ hM ⟨va_cnB _ hts hG rfl rfl rfl (hE.2.2.2.1.1 _ k1) (hts _ hY.2.2.2.1) ⟨hY.2.2.2.2.1.1, hY.2.2.2.2.1.2, k4⟩ ⟨hf, hlo2⟩, k3, hts _ k2⟩ hpre rfl (by omega) hsz (show pR ++ rR = aR'.reverse ++ .ref qa :: rR by rw [hpR, List.append_assoc]; rfl) (lv_room (by rw [hr.sum]; exact hsum)) hdg ⟨hcc, hss⟩) k9
  · cases hrc
theorem go_cs {xs : Int → Int} {L : Int} {n d2 i k : Nat} (hSIM : SIM xs L l n) (C : Cx p s m args meth c cc A q) (hE : EV sA b A xs L s) {pc : Nat} {ls : ML} {st as r : List MV} {h : MH} {q2 : MJ} {res : MR} (hdg : decode cc pc = .ok (.invokestatic i, 3)) (hl : m_l (m_M q.1).2.1 i = some k) (hj : m_mj k = some q2) (hargs : m_args q2.1.2.2.1 [] st = some (as, r)) (hres : m_run xs L n d2 q2.1 0 (m_ent q2.1.2.2.2.1 as) [] h = res) (hok : m_ok res.2 = true) (hsum : m_sum r ≤ 8) (hent : (m_entA as).length ≤ q2.1.2.2.2.1)
    (hf : d2 + 1 ≤ R.frames) (hlo : 64 * (d2 + 1) ≤ R.locals) (hr1 : res.2.1.1 ≤ zc + R.cells) (hr2 : res.2.1.2.1 ≤ zs + R.slots) (hnL : nL = q.2.2.2.1)
    (k9 : Go p l e R s m args below meth c Q w0 D A sA b nL zc zs (pc + 3, ls, res.1.toList ++ r, res.2)) : Go p l e R s m args below meth c Q w0 D A sA b nL zc zs (pc, ls, st, h) := by
  have hmo : Mo h res.2 := by rw [← hres]; exact m_run_mo _ _ _ _ _ _ _
  intro H locs cells slots ws tys lsR stR hW hS hc hs hL hSt
  dsimp only at hW hc hs hL hSt
  obtain ⟨pR, rR, rfl, hr, has, hlen⟩ := m_args_rs (accR := []) hargs hSt trivial
  rw [List.append_nil] at has
  have hlk := lkS_all q.1 _ (m_l_mem hl)
  unfold LkS at hlk
  dsimp only at hlk
  rw [hj] at hlk
  obtain ⟨hY, k1, k2, k4⟩ := hlk
  obtain ⟨hx, hb, hml, hown, hts, hA, -⟩ := id C
  have hM := MET (l := l) hSIM (mj_v hj) hY hres hok hent D sA b ws tys pR.reverse H.size has
  have hsz : lsR.size = q.2.2.2.1 := by
    obtain ⟨-, lv, h1, -⟩ := hL
    rw [← hnL]
    exact h1.1
  have hcc : cells + (res.2.1.1 - h.1.1) ≤ R.cells := by have := hmo.1; omega
  have hss : slots + (res.2.1.2.1 - h.1.2.1) ≤ R.slots := by have := hmo.2.1; omega
  have hlo2 : 8 + (q2.1.2.2.2.1 + 11) + 64 * d2 ≤ R.locals := by
    have := hY.2.2.2.2.2.2.2
    omega
  have hG : GoodIn tb_w (Jvm.Cond.code q2.2.1 q2.2.2.1 q2.1.2.2.2.1 q2.2.2.2 :: tb_w) := by
    intro w hw
    rcases List.mem_cons.mp hw with rfl | hw
    · exact ⟨hY.2.2.1, (tb_good _ hY.2.2.1).2⟩
    · exact ⟨hw, (tb_good _ hw).2⟩
  have hpre : PreS s H (MPc D sA b xs L h ws tys H.size pR.reverse) pR.reverse := ⟨MPc.blind, fun U hU hWm => ⟨rfl, by rw [hU], by rw [hU]; exact ((hW.base).wk (fun _ _ _ _ => trivial)).moved hWm.alike, hE.call (D := D) hU hWm hS hW.2.2.1 hA⟩⟩
  exact go_back C hW hS hc hs hmo.1 hmo.2.1 hL hr (st0 := pR ++ rR) (va_runS (bytes := q2.2.2.1) (maxL := q2.1.2.2.2.1) (ret := q2.2.2.2) (As := pR.reverse) (rest := rR) (own := Rn q.1) (index := i) (n := q2.1.2.2.1) ⟨hx, hb, hml, hown, hts⟩ hM ⟨callB_of _ hts hG rfl rfl rfl (hts _ hY.2.2.2.1) (hts _ k1) ⟨hY.2.2.2.2.1.1, hY.2.2.2.2.1.2, k4⟩ ⟨hf, hlo2⟩, hts _ k2⟩ hpre rfl (by rw [List.length_reverse]; exact hlen) hsz (show pR ++ rR = pR.reverse.reverse ++ rR by rw [List.reverse_reverse]) (lv_room (by rw [hr.sum]; exact hsum)) hdg ⟨hcc, hss⟩) k9
end GoD
