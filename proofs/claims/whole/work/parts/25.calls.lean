section GoC
variable {p : Program} {l : Launch} {e : Env} {R : Room} {s : State} {m : MethodId} {args : Array Value} {below : List Frame} {meth : Method} {c : Code} {Q : State → Prop} {cc : ByteArray} {w0 : va_W} {D : va_G} {A : Nat → Prop} {sA : Nat → Nat} {b nL zc zs : Nat} {q : MI}
/-- behind a call, in the caller's world -/
theorem go_back {pc : Nat} {ls : ML} {r : List MV} {res : MR} {h : MH} {H : Heap} {locs : List Loc} {cells slots : Nat} {ws : va_W} {tys : List (ClassId × FieldType)} {lsR : Array Slot} {rR st0 : List Value} (C : Cx p s m args meth c cc A q) (hW : WR w0 D A sA b h s H ws tys) (hS : va_S A s.heap H locs) (hc : cells + zc = h.1.1) (hs : slots + zs = h.1.2.1) (hm1 : h.1.1 ≤ res.2.1.1) (hm2 : h.1.2.1 ≤ res.2.1.2.1) (hL : RLo ws sA b nL ls lsR) (hr : RS ws sA b r rR)
    (run : va_Run p l e R s m args below meth c H locs cells slots (res.2.1.1 - h.1.1) (res.2.1.2.1 - h.1.2.1) (F0 m pc lsR st0) rR (fun st oc t => (∃ v : Option Value, oc = .returned v ∧ ∃ (ws' : va_W) (tys' : List (ClassId × FieldType)), RO ws' sA b res.1 v ∧ WR ws D (va_A ws H.size) sA b res.2 t t.heap ws' tys') ∧ va_F (va_A ws H.size) st t) (va_A ws H.size))
    (k : Go p l e R s m args below meth c Q w0 D A sA b nL zc zs (pc + 3, ls, res.1.toList ++ r, res.2)) : W p l e R s m args below meth c H locs cells slots Q (F0 m pc lsR st0) := by
  have hA := C.2.2.2.2.2.1
  have hin : ∀ q : Nat, va_A ws H.size q → A q := by
    rintro q (⟨k9, e9, hk9⟩ | hz)
    · exact hW.2.2.1.2 k9 _ hk9
    · exact hA q (Nat.le_trans hS.1 hz)
  refine va_callQ run hS (fun q _ h9 => hin q h9) hin (fun v t H1 locs1 ht hvm hB hz1 hk1 hS1 => ?_)
  obtain ⟨ws', tys', hRO, hW'⟩ := hB
  rw [ht] at hW'
  have hX : va_X2 ws ws' := hW'.2.2.2.2.2.2
  have hW2 : WR w0 D A sA b res.2 s H1 ws' tys' := by
    have h9 := hW'.moved hvm.symm
    exact ⟨h9.1, h9.2.1, h9.2.2.1.weaken (fun _ _ _ h8 => hin _ h8), h9.2.2.2.1, h9.2.2.2.2.1, h9.2.2.2.2.2.1, hW.2.2.2.2.2.2.tr hX⟩
  refine k H1 locs1 _ _ ws' tys' lsR _ hW2 hS1 (by show cells + (res.2.1.1 - h.1.1) + zc = res.2.1.1; omega) (by show slots + (res.2.1.2.1 - h.1.2.1) + zs = res.2.1.2.1; omega) (hL.mono hX) ?_
  show RS ws' sA b (res.1.toList ++ r) (v.toList ++ rR)
  cases hr1 : res.1 with
  | none =>
    rw [hr1] at hRO
    cases v with
    | none => exact hr.mono hX
    | some v => exact hRO.elim
  | some x =>
    rw [hr1] at hRO
    cases v with
    | none => exact hRO.elim
    | some v => exact ⟨hRO, hr.mono hX⟩
theorem go_cv {xs : Int → Int} {L : Int} {n d2 i k : Nat} (hSIM : SIM xs L l n) (C : Cx p s m args meth c cc A q) (hE : EV sA b A xs L s) {pc : Nat} {ls : ML} {st as r : List MV} {h : MH} {q2 : MJ} {res : MR} (hdg : decode cc pc = .ok (.invokevirtual i, 3)) (hl : m_l (m_M q.1).1 i = some k) (hj : m_mj k = some q2) (hargs : m_args q2.1.2.2.1 [] st = some (as, r)) (hres : m_run xs L n d2 q2.1 0 (m_ent q2.1.2.2.2.1 as) [] h = res) (hok : m_ok res.2 = true) (hsum : m_sum r ≤ 8) (hent : (m_entA as).length ≤ q2.1.2.2.2.1) (hrc : m_rcv q2.1.1 as h = true)
    (hf : d2 + 1 ≤ R.frames) (hlo : 64 * (d2 + 1) ≤ R.locals) (hr1 : res.2.1.1 ≤ zc + R.cells) (hr2 : res.2.1.2.1 ≤ zs + R.slots) (hnL : nL = q.2.2.2.1)
    (k9 : Go p l e R s m args below meth c Q w0 D A sA b nL zc zs (pc + 3, ls, res.1.toList ++ r, res.2)) : Go p l e R s m args below meth c Q w0 D A sA b nL zc zs (pc, ls, st, h) := by
  have hmo : Mo h res.2 := by rw [← hres]; exact m_run_mo _ _ _ _ _ _ _
  intro H locs cells slots ws tys lsR stR hW hS hc hs hL hSt
  dsimp only at hW hc hs hL hSt
  obtain ⟨pR, rR, rfl, hr, has, hlen⟩ := m_args_rs (accR := []) hargs hSt trivial
  rw [List.append_nil] at has
  have hlk := lkV_all q.1 _ (m_l_mem hl)
  unfold LkV at hlk
  dsimp only at hlk
  rw [hj] at hlk
  obtain ⟨hY, k1, k2, k3, k4, k5, rr, hrr⟩ := hlk
  -- the receiver
  unfold m_rcv at hrc
  split at hrc
  · rename_i a as'
    have hkd := m_is_ok hrc
    obtain ⟨kk, qa, ee, rfl, hk, hcr⟩ := hW.get (a := a) (by omega)
    obtain ⟨fs, rfl, -, -⟩ := hcr.obj hkd
    obtain ⟨v, aR', hpe, hv, hRS'⟩ := RS.cons has
    have hv := hv.place hk
    subst hv
    have hpR : pR = aR'.reverse ++ [.ref qa] := by
      have := congrArg List.reverse hpe
      simpa using this
    obtain ⟨hx, hb, hml, hown, hts, hA, -⟩ := id C
    have hM := MET (l := l) hSIM (mj_v hj) hY hres hok hent D sA b ws tys (.ref qa :: aR') H.size (by rw [← hpe]; exact has)
    have hal : aR'.length + 1 = q2.1.2.2.1 := by
      have := congrArg List.length hpR
      simp at this
      omega
    have hsz : lsR.size = q.2.2.2.1 := by
      obtain ⟨-, lv, h1, -⟩ := hL
      rw [← hnL]
      exact h1.1
    have hcc : cells + (res.2.1.1 - h.1.1) ≤ R.cells := by have := hmo.1; omega
    have hss : slots + (res.2.1.2.1 - h.1.2.1) ≤ R.slots := by have := hmo.2.1; omega
    refine go_back C hW hS hc hs hmo.1 hmo.2.1 hL hr (st0 := pR ++ rR) (va_runV (bytes := q2.2.2.1) (maxL := q2.1.2.2.2.1) (ret := q2.2.2.2) (b := qa) (As := aR') (rest := rR) (C := q2.2.1.cls) (own := Rn q.1) (index := i) (n := q2.1.2.2.1 - 1) ⟨hx, hb, hml, hown, hts⟩ hM ?_ ?_ rfl (by omega) hsz (show pR ++ rR = aR'.reverse ++ .ref qa :: rR by rw [hpR, List.append_assoc]; rfl) (lv_room (by rw [hr.sum]; exact hsum)) hdg ⟨hcc, hss⟩) k9
    · refine ⟨callB_of _ hts ?_ rfl rfl rfl (hts _ hY.2.2.2.1) (hts _ k1) ⟨hY.2.2.2.2.1.1, hY.2.2.2.2.1.2, k4⟩ ⟨hf, ?_⟩, hts _ k2, hts _ k3⟩
      · intro w hw
        rcases List.mem_cons.mp hw with rfl | hw
        · exact ⟨hY.2.2.1, (tb_good _ hY.2.2.1).2⟩
        · exact ⟨hw, (tb_good _ hw).2⟩
      · have := hY.2.2.2.2.2.2.2
        show 8 + (q2.1.2.2.2.1 + 11) + 64 * d2 ≤ R.locals
        omega
    · refine ⟨MPc.blind, ?_, fun U hU hWm => ?_⟩
      · have := va_recv hW.1 hW.2.1 hrr hk
        rw [← Rn_cl hrr, ← hY.1] at this
        exact this
      · exact ⟨rfl, by rw [hU], by rw [hU]; exact ((hW.base).wk (fun _ _ _ _ => trivial)).moved hWm.alike, hE.call (D := D) hU hWm hS hW.2.2.1 hA⟩
  · cases hrc
end GoC
