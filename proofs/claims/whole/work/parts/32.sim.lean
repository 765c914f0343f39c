/-! THE SIMULATION -/
theorem m_len0 {op : Instr} (h : m_len op = 0) : (∃ a b c d, op = .tableswitch a b c d) ∨ ∃ a b, op = .lookupswitch a b := by
  cases op
  case tableswitch a b c d => exact Or.inl ⟨a, b, c, d, rfl⟩
  case lookupswitch a b => exact Or.inr ⟨a, b, rfl⟩
  all_goals cases h
theorem m_bad_ok {h : MH} (k : m_ok (m_bad h) = true) : False := by
  simp [m_bad, m_ok, m_chk] at k
theorem m_mi_mj {k : Nat} {q2 : MI} (h : m_mi k = some q2) : ∃ q : MJ, m_mj k = some q ∧ q2 = q.1 := by
  unfold m_mi at h
  cases hj : m_mj k with
  | none => rw [hj] at h; cases h
  | some q => rw [hj] at h; cases h; exact ⟨q, rfl, rfl⟩
section SIMs
variable {p : Program} {l : Launch} {e : Env} {R : Room} {s : State} {m : MethodId} {args : Array Value} {below : List Frame} {meth : Method} {c : Code} {Q : State → Prop} {cc : ByteArray} {w0 : va_W} {D : va_G} {A : Nat → Prop} {sA : Nat → Nat} {b nL zc zs : Nat} {q : MI}
theorem Go.chk {pc : Nat} {ls : ML} {st : List MV} {h : MH} {t : Bool} (k : Go p l e R s m args below meth c Q w0 D A sA b nL zc zs (pc, ls, st, m_chk t h)) : Go p l e R s m args below meth c Q w0 D A sA b nL zc zs (pc, ls, st, h) := k
theorem sim_nv (C : Cx p s m args meth c cc A q) {xs : Int → Int} {L : Int} (hE : EV sA b A xs L s) {pc i k d : Nat} {ls : ML} {st : List MV} {h : MH} (hl : m_l (m_M q.1).1 i = some k) (hdg : decode cc pc = .ok (.invokevirtual i, 3)) (hf : d ≤ R.frames) (hlo : 64 * d ≤ R.locals) (hnL : nL = q.2.2.2.1) (hok : m_ok (m_nat k d st h).2 = true) (hr1 : (m_nat k d st h).2.1.1 ≤ zc + R.cells) (hr2 : (m_nat k d st h).2.1.2.1 ≤ zs + R.slots)
    (kk : Go p l e R s m args below meth c Q w0 D A sA b nL zc zs (pc + 3, ls, (m_nat k d st h).1, (m_nat k d st h).2)) : Go p l e R s m args below meth c Q w0 D A sA b nL zc zs (pc, ls, st, h) := by
  have hlk := lkV_all q.1 _ (m_l_mem hl)
  unfold LkV at hlk
  dsimp only at hlk
  unfold m_nat at hok kk hr1 hr2
  split at hok
  · rw [show m_mj 1000 = none from rfl] at hlk
    rcases hlk with ⟨z, -⟩ | ⟨z, -⟩ <;> omega
  · rw [show m_mj 1001 = none from rfl] at hlk
    rcases hlk with ⟨z, -⟩ | ⟨z, -⟩ <;> omega
  · split at hok
    · have hb := (m_chk_ok hok).1
      simp only [Bool.and_eq_true, decide_eq_true_eq, Nat.ble_eq] at hb
      exact go_sl C hE hl hdg (by omega) (by omega) hr1 hr2 hb.1.2 hnL hb.2.1 hb.2.2 (Go.chk kk)
    · exact (m_bad_ok hok).elim
  · split at hok
    · have hb := (m_chk_ok hok).1
      simp only [Bool.and_eq_true, decide_eq_true_eq, Nat.ble_eq] at hb
      exact go_sc C hE hl hdg (by omega) (by omega) hr1 hr2 hb.1.2 hnL hb.2.1 hb.2.2.1 hb.2.2.2.1 hb.2.2.2.2 (Go.chk kk)
    · exact (m_bad_ok hok).elim
  · rw [show m_mj 1004 = none from rfl] at hlk
    rcases hlk with ⟨z, -⟩ | ⟨z, -⟩ <;> omega
  · rw [show m_mj 1005 = none from rfl] at hlk
    rcases hlk with ⟨z, -⟩ | ⟨z, -⟩ <;> omega
  · exact (m_bad_ok hok).elim
theorem sim_ns (C : Cx p s m args meth c cc A q) {pc i k d : Nat} {ls : ML} {st : List MV} {h : MH} (hl : m_l (m_M q.1).2.1 i = some k) (hdg : decode cc pc = .ok (.invokestatic i, 3)) (hf : d ≤ R.frames) (hlo : 64 * d ≤ R.locals) (hnL : nL = q.2.2.2.1) (hok : m_ok (m_nat k d st h).2 = true) (hr1 : (m_nat k d st h).2.1.1 ≤ zc + R.cells) (hr2 : (m_nat k d st h).2.1.2.1 ≤ zs + R.slots)
    (kk : Go p l e R s m args below meth c Q w0 D A sA b nL zc zs (pc + 3, ls, (m_nat k d st h).1, (m_nat k d st h).2)) : Go p l e R s m args below meth c Q w0 D A sA b nL zc zs (pc, ls, st, h) := by
  have hlk := lkS_all q.1 _ (m_l_mem hl)
  unfold LkS at hlk
  dsimp only at hlk
  unfold m_nat at hok kk hr1 hr2
  split at hok
  · rw [show m_mj 1000 = none from rfl] at hlk
    rcases hlk with ⟨z, -⟩ | ⟨z, -⟩ | ⟨z, -⟩ <;> omega
  · split at hok
    · have hb := (m_chk_ok hok).1
      simp only [Bool.and_eq_true, decide_eq_true_eq, Nat.ble_eq] at hb
      obtain ⟨⟨b1, b2⟩, b3, b4, b5, b6, b7, b8, b9⟩ := hb
      exact go_cp C hl hdg (by omega) (by omega) b2 hnL (m_is_ok b3) (m_is_ok b4) b5 b6 b7 b8 b9 (Go.chk kk)
    · exact (m_bad_ok hok).elim
  · rw [show m_mj 1002 = none from rfl] at hlk
    rcases hlk with ⟨z, -⟩ | ⟨z, -⟩ | ⟨z, -⟩ <;> omega
  · rw [show m_mj 1003 = none from rfl] at hlk
    rcases hlk with ⟨z, -⟩ | ⟨z, -⟩ | ⟨z, -⟩ <;> omega
  · split at hok
    · have hb := (m_chk_ok hok).1
      simp only [Bool.and_eq_true, Nat.ble_eq] at hb
      exact go_mx C hl hdg (by omega) (by omega) hr1 hr2 hb.2 hnL (Go.chk kk)
    · exact (m_bad_ok hok).elim
  · split at hok
    · have hb := (m_chk_ok hok).1
      simp only [Bool.and_eq_true, Nat.ble_eq] at hb
      exact go_mn C hl hdg (by omega) (by omega) hr1 hr2 hb.2 hnL (Go.chk kk)
    · exact (m_bad_ok hok).elim
  · exact (m_bad_ok hok).elim
theorem sim_ni (C : Cx p s m args meth c cc A q) {pc i k d : Nat} {ls : ML} {st : List MV} {h : MH} (hl : m_l (m_M q.1).2.2 i = some k) (hdg : decode cc pc = .ok (.invokespecial i, 3)) (hf : d ≤ R.frames) (hlo : 64 * d ≤ R.locals) (hnL : nL = q.2.2.2.1) (hok : m_ok (m_nat k d st h).2 = true)
    (kk : Go p l e R s m args below meth c Q w0 D A sA b nL zc zs (pc + 3, ls, (m_nat k d st h).1, (m_nat k d st h).2)) : Go p l e R s m args below meth c Q w0 D A sA b nL zc zs (pc, ls, st, h) := by
  have hlk := lkI_all q.1 _ (m_l_mem hl)
  unfold LkI at hlk
  dsimp only at hlk
  unfold m_nat at hok kk
  split at hok
  · split at hok
    · have hb := (m_chk_ok hok).1
      simp only [Bool.and_eq_true, Nat.ble_eq, Bool.not_eq_true', decide_eq_false_iff_not] at hb
      exact go_oi C hl hdg (by omega) (by omega) hb.1.2 hnL hb.2 (Go.chk kk)
    · exact (m_bad_ok hok).elim
  · rw [show m_mj 1001 = none from rfl] at hlk
    have := hlk.1
    omega
  · rw [show m_mj 1002 = none from rfl] at hlk
    have := hlk.1
    omega
  · rw [show m_mj 1003 = none from rfl] at hlk
    have := hlk.1
    omega
  · rw [show m_mj 1004 = none from rfl] at hlk
    have := hlk.1
    omega
  · rw [show m_mj 1005 = none from rfl] at hlk
    have := hlk.1
    omega
  · exact (m_bad_ok hok).elim
set_option maxHeartbeats 4000000 in
theorem sim_all {xs : Int → Int} {L : Int} {l : Launch} : ∀ n : Nat, SIM xs L l n := by
  intro n
  induction n with
  | zero =>
    intro d q pc ls st h res hres hok
    subst hres
    exact (m_bad_ok hok).elim
  | succ n ih =>
    intro d q pc ls st h res hres hok p e R s m args below meth c Q cc w0 D A sA b zc zs C hval hE hfr hlo hc1 hc2 hret
    have IH : ∀ pc' ls' st' h', m_run xs L n d q pc' ls' st' h' = res → Go p l e R s m args below meth c Q w0 D A sA b q.2.2.2.1 zc zs (pc', ls', st', h') := fun pc' ls' st' h' hr => ih d q pc' ls' st' h' res hr hok p e R s m args below meth c Q cc w0 D A sA b zc zs C hval hE hfr hlo hc1 hc2 hret
    have MO : ∀ pc' ls' st' h', m_run xs L n d q pc' ls' st' h' = res → m_ok h' = true ∧ h'.1.1 ≤ zc + R.cells ∧ h'.1.2.1 ≤ zs + R.slots := fun pc' ls' st' h' hr => by
      have hm := m_run_mo (xs := xs) (L := L) n d q pc' ls' st' h'
      rw [hr] at hm
      exact ⟨hm.2.2 hok, Nat.le_trans hm.1 hc1, Nat.le_trans hm.2.1 hc2⟩
    unfold m_run at hres
    cases hop : m_lk q.2.2.2.2.2 pc with
    | none =>
      rw [hop] at hres
      subst hres
      exact (m_bad_ok hok).elim
    | some op =>
      rw [hop] at hres
      obtain ⟨len, hdg, hlen⟩ := m_val_use hval hop
      dsimp only at hres
      split at hres
      · have hd : decode cc pc = .ok (.return_, 1) := by rcases hlen with rfl | z; exact hdg; cases z
        subst hres
        have hb := (m_chk_ok hok).1
        simp only [Bool.and_eq_true, List.isEmpty_iff] at hb
        exact hret pc ls st h none _ (Or.inl ⟨hd, hb.2, rfl, Nat.eq_of_beq_eq_true hb.1⟩) rfl
      · have hd : decode cc pc = .ok (.ireturn, 1) := by rcases hlen with rfl | z; exact hdg; cases z
        split at hres
        · rename_i x
          subst hres
          have hb := (m_chk_ok hok).1
          simp only [Bool.or_eq_true, Bool.and_eq_true, decide_eq_true_eq] at hb
          refine hret pc ls _ h (some (.inl x)) _ (Or.inr (Or.inl ⟨hd, x, rfl, rfl, ?_⟩)) rfl
          rcases hb with hb | ⟨hb, hb2⟩
          · exact Or.inl (Nat.eq_of_beq_eq_true hb)
          · exact Or.inr ⟨Nat.eq_of_beq_eq_true hb, hb2⟩
        · subst hres
          exact (m_bad_ok hok).elim
      · have hd : decode cc pc = .ok (.lreturn, 1) := by rcases hlen with rfl | z; exact hdg; cases z
        split at hres
        · rename_i x
          subst hres
          exact hret pc ls _ h (some (.inr (.inl x))) _ (Or.inr (Or.inr (Or.inl ⟨hd, x, rfl, rfl, Nat.eq_of_beq_eq_true (m_chk_ok hok).1⟩))) rfl
        · subst hres
          exact (m_bad_ok hok).elim
      · have hd : decode cc pc = .ok (.areturn, 1) := by rcases hlen with rfl | z; exact hdg; cases z
        split at hres
        · rename_i x
          subst hres
          exact hret pc ls _ h (some (.inr (.inr x))) _ (Or.inr (Or.inr (Or.inr ⟨hd, x, rfl, rfl, Nat.eq_of_beq_eq_true (m_chk_ok hok).1⟩))) rfl
        · subst hres
          exact (m_bad_ok hok).elim
      · rename_i off
        have hd : decode cc pc = .ok (.goto off, 3) := by rcases hlen with rfl | z; exact hdg; cases z
        exact go_goto C hd (of_decide_eq_true (m_chk_ok (MO _ _ _ _ hres).1).1) (Go.chk (IH _ _ _ _ hres))
      · rename_i cd off
        have hd : decode cc pc = .ok (.ifCond cd off, 3) := by rcases hlen with rfl | z; exact hdg; cases z
        split at hres
        · rename_i x r
          by_cases hc : m_if cd x 0 = true
          · rw [if_pos hc] at hres
            exact go_if C hd (of_decide_eq_true (m_chk_ok (MO _ _ _ _ hres).1).1) (fun _ => Go.chk (IH _ _ _ _ hres)) (fun z => absurd hc z)
          · rw [if_neg hc] at hres
            exact go_if C hd (of_decide_eq_true (m_chk_ok (MO _ _ _ _ hres).1).1) (fun z => absurd z hc) (fun _ => Go.chk (IH _ _ _ _ hres))
        · subst hres
          exact (m_bad_ok hok).elim
      · rename_i cd off
        have hd : decode cc pc = .ok (.if_icmp cd off, 3) := by rcases hlen with rfl | z; exact hdg; cases z
        split at hres
        · rename_i y x r
          by_cases hc : m_if cd x y = true
          · rw [if_pos hc] at hres
            exact go_ic C hd (of_decide_eq_true (m_chk_ok (MO _ _ _ _ hres).1).1) (fun _ => Go.chk (IH _ _ _ _ hres)) (fun z => absurd hc z)
          · rw [if_neg hc] at hres
            exact go_ic C hd (of_decide_eq_true (m_chk_ok (MO _ _ _ _ hres).1).1) (fun z => absurd z hc) (fun _ => Go.chk (IH _ _ _ _ hres))
        · subst hres
          exact (m_bad_ok hok).elim
      · rename_i off
        have hd : decode cc pc = .ok (.ifnonnull off, 3) := by rcases hlen with rfl | z; exact hdg; cases z
        split at hres
        · rename_i a r
          by_cases hc : a = -1
          · rw [if_pos hc] at hres
            exact go_nn C hd (of_decide_eq_true (m_chk_ok (MO _ _ _ _ hres).1).1) (fun _ => Go.chk (IH _ _ _ _ hres)) (fun z => absurd hc z)
          · rw [if_neg hc] at hres
            exact go_nn C hd (of_decide_eq_true (m_chk_ok (MO _ _ _ _ hres).1).1) (fun z => absurd z hc) (fun _ => Go.chk (IH _ _ _ _ hres))
        · subst hres
          exact (m_bad_ok hok).elim
      · rename_i dflt lo hi offs
        split at hres
        · rename_i x r
          rw [m_swi_t] at hres
          have hb := (m_chk_ok (MO _ _ _ _ hres).1).1
          simp only [Bool.and_eq_true, decide_eq_true_eq] at hb
          exact go_tsw C hdg hb.1 hb.2.1 hb.2.2 (Go.chk (IH _ _ _ _ hres))
        · subst hres
          exact (m_bad_ok hok).elim
      · rename_i dflt ps
        split at hres
        · rename_i x r
          rw [m_lsw_t] at hres
          have hb := (m_chk_ok (MO _ _ _ _ hres).1).1
          rw [Bool.and_eq_true, Bool.and_eq_true, decide_eq_true_eq] at hb
          exact go_lsw C hdg hb.1 hb.2.1 hb.2.2 (Go.chk (IH _ _ _ _ hres))
        · subst hres
          exact (m_bad_ok hok).elim
      · rename_i i
        have hd : decode cc pc = .ok (.invokevirtual i, 3) := by rcases hlen with rfl | z; exact hdg; cases z
        split at hres
        · rename_i k hk
          split at hres
          · rename_i q2 d2 hq2
            obtain ⟨qj, hj, rfl⟩ := m_mi_mj hq2
            split at hres
            · rename_i as r hargs
              have hm := MO _ _ _ _ hres
              have hb := (m_chk_ok hm.1).1
              simp only [Bool.and_eq_true, Nat.ble_eq] at hb
              exact go_cv ih C hE hd hk hj hargs rfl (m_chk_ok hm.1).2 hb.1.1 hb.1.2 hb.2 hfr hlo hm.2.1 hm.2.2 rfl (Go.chk (IH _ _ _ _ hres))
            · subst hres
              exact (m_bad_ok hok).elim
          · have hm := MO _ _ _ _ hres
            exact sim_nv C hE hk hd hfr hlo rfl hm.1 hm.2.1 hm.2.2 (IH _ _ _ _ hres)
        · subst hres
          exact (m_bad_ok hok).elim
      · rename_i i
        have hd : decode cc pc = .ok (.invokestatic i, 3) := by rcases hlen with rfl | z; exact hdg; cases z
        split at hres
        · rename_i k hk
          split at hres
          · rename_i q2 d2 hq2
            obtain ⟨qj, hj, rfl⟩ := m_mi_mj hq2
            split at hres
            · rename_i as r hargs
              have hm := MO _ _ _ _ hres
              have hb := (m_chk_ok hm.1).1
              simp only [Bool.and_eq_true, Nat.ble_eq] at hb
              exact go_cs ih C hE hd hk hj hargs rfl (m_chk_ok hm.1).2 hb.1 hb.2 hfr hlo hm.2.1 hm.2.2 rfl (Go.chk (IH _ _ _ _ hres))
            · subst hres
              exact (m_bad_ok hok).elim
          · have hm := MO _ _ _ _ hres
            exact sim_ns C hk hd hfr hlo rfl hm.1 hm.2.1 hm.2.2 (IH _ _ _ _ hres)
        · subst hres
          exact (m_bad_ok hok).elim
      · rename_i i
        have hd : decode cc pc = .ok (.invokespecial i, 3) := by rcases hlen with rfl | z; exact hdg; cases z
        split at hres
        · rename_i k hk
          split at hres
          · rename_i q2 d2 hq2
            obtain ⟨qj, hj, rfl⟩ := m_mi_mj hq2
            split at hres
            · rename_i as r hargs
              have hm := MO _ _ _ _ hres
              have hb := (m_chk_ok hm.1).1
              simp only [Bool.and_eq_true, Nat.ble_eq] at hb
              exact go_ci ih C hE hd hk hj hargs rfl (m_chk_ok hm.1).2 hb.1.1 hb.1.2 hb.2 hfr hlo hm.2.1 hm.2.2 rfl (Go.chk (IH _ _ _ _ hres))
            · subst hres
              exact (m_bad_ok hok).elim
          · have hm := MO _ _ _ _ hres
            exact sim_ni C hk hd hfr hlo rfl hm.1 (IH _ _ _ _ hres)
        · subst hres
          exact (m_bad_ok hok).elim
      · rename_i hn1 hn2 hn3 hn4 hn5 hn6 hn7 hn8 hn9 hn10 hn11 hn12 hn13
        have hl2 : len = m_len op := by
          rcases hlen with z | z
          · exact z
          · rcases m_len0 z with ⟨a1, a2, a3, a4, rfl⟩ | ⟨a1, a2, rfl⟩
            · exact absurd rfl (hn9 _ _ _ _)
            · exact absurd rfl (hn10 _ _)
        have hm := MO _ _ _ _ hres
        by_cases hmm : ∃ i dm, op = .multianewarray i dm
        · obtain ⟨i, dm, rfl⟩ := hmm
          have hgo := IH _ _ _ _ hres
          simp only [m_ex] at hm hgo
          split at hgo
          · rename_i k0 n0 r0 hp8
            rw [hp8] at hm
            have hb := (m_chk_ok hm.1).1
            simp only [Bool.and_eq_true, Nat.beq_eq] at hb
            obtain ⟨b1, b2, b3, -⟩ := hb
            subst b3
            exact go_mna C hE.2.2.2.1.2 hp8 (by rw [hdg, hl2]; rfl) b1 b2 hm.2.1 hm.2.2 (Go.chk hgo)
          · rename_i hno
            have h9 := hm.1
            split at h9
            · rename_i hp
              exact (hno _ _ _ rfl hp).elim
            · exact (m_no_ok h9).elim
        · exact sim_ex C hE.1 hE.2.1 hE.2.2.1 hdg hl2 (fun i dm z => hmm ⟨i, dm, z⟩) hm.2.1 hm.2.2 hm.1 (IH _ _ _ _ hres)
end SIMs
