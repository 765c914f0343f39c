theorem na_int : Jvm.Cond.arrayClass (newarray.typeOf .int) ∈ tb_w := t_in_ok (by decide +kernel)
theorem na_long : Jvm.Cond.arrayClass (newarray.typeOf .long) ∈ tb_w := t_in_ok (by decide +kernel)
theorem na_byte : Jvm.Cond.arrayClass (newarray.typeOf .byte) ∈ tb_w := t_in_ok (by decide +kernel)
theorem na_bool : Jvm.Cond.arrayClass (newarray.typeOf .boolean) ∈ tb_w := t_in_ok (by decide +kernel)
section GoM
variable {p : Program} {l : Launch} {e : Env} {R : Room} {s : State} {m : MethodId} {args : Array Value} {below : List Frame} {meth : Method} {c : Code} {Q : State → Prop} {cc : ByteArray} {w0 : va_W} {D : va_G} {A : Nat → Prop} {sA : Nat → Nat} {b nL zc zs : Nat} {q : MI}
theorem go_k (C : Cx p s m args meth c cc A q) (hZ : SK sA args s) {pc i len : Nat} {ls : ML} {st : List MV} {h : MH} {v : MV} (hp : m_l (m_P q.1).2.1 i = some v)
    (hdg : decode cc pc = .ok (.ldc i, 2) ∧ len = 2 ∨ decode cc pc = .ok (.ldc_w i, 3) ∧ len = 3 ∧ (∃ x, v = .inl x) ∨ decode cc pc = .ok (.ldc2_w i, 3) ∧ len = 3 ∧ ∃ x, v = .inr (.inl x)) (hlv : len = 2 → ∀ x, v ≠ .inr (.inl x)) (hst : ∀ a, v = .inr (.inr a) → ∃ j : Nat, a = -10 - (j : Int))
    (k : Go p l e R s m args below meth c Q w0 D A sA b nL zc zs (m_nx pc len ls (v :: st) h)) : Go p l e R s m args below meth c Q w0 D A sA b nL zc zs (pc, ls, st, h) := by
  have h1 := List.all_eq_true.mp (k_use q.1) _ (m_l_mem hp)
  unfold k_ok at h1
  dsimp only at h1
  obtain ⟨hx, hb, hml, hown, hts, -⟩ := C
  rcases v with x | x | a
  · simp only [Bool.and_eq_true, decide_eq_true_eq] at h1
    rcases hdg with ⟨hd, rfl⟩ | ⟨hd, rfl, -⟩ | ⟨-, -, y, hy⟩
    · exact go_push (t := true) (x := .inl x) (v := .int (Int32.ofInt x)) (fun _ => ⟨_, rfl, h1.2⟩) (fun H locs cells slots lsR rest kk => lv_ldc hx hb hown (hts _ (t_in_ok h1.1)) hd kk) k
    · exact go_push (t := true) (x := .inl x) (v := .int (Int32.ofInt x)) (fun _ => ⟨_, rfl, h1.2⟩) (fun H locs cells slots lsR rest kk => lv_ldcw hx hb hown (hts _ (t_in_ok h1.1)) hd kk) k
    · cases hy
  · simp only [Bool.and_eq_true, decide_eq_true_eq] at h1
    rcases hdg with ⟨hd, rfl⟩ | ⟨hd, rfl, y, hy⟩ | ⟨hd, rfl, -⟩
    · exact absurd rfl (hlv rfl x)
    · cases hy
    · exact go_push (t := true) (x := .inr (.inl x)) (v := .long (Int64.ofInt x)) (fun _ => ⟨_, rfl, h1.2⟩) (fun H locs cells slots lsR rest kk => lv_ldc2 hx hb hown (hts _ (t_in_ok h1.1)) hd kk) k
  · obtain ⟨j, rfl⟩ := hst a rfl
    obtain ⟨z1, tx, z2⟩ := hZ q.1 i j hp
    rcases hdg with ⟨hd, rfl⟩ | ⟨hd, rfl, y, hy⟩ | ⟨hd, rfl, y, hy⟩
    · exact go_push (t := true) (x := .inr (.inr (-10 - (j : Int)))) (v := .ref (sA j)) (fun _ => Or.inr (Or.inr (Or.inl ⟨j, z1, rfl, rfl⟩))) (fun H locs cells slots lsR rest kk => va_ldcS hx hb hown z2 hd kk) k
    · cases hy
    · cases hy
/-- texts of the pool are texts, and stand under ldc alone -/
theorem k_txt : (List.range 15).all (fun own => (m_P own).2.1.all (fun q => match q.2 with | .inr (.inr a) => decide (a ≤ -10) | _ => true)) = true := by decide +kernel
theorem k_txt_use {own i : Nat} {a : Int} (h : m_l (m_P own).2.1 i = some (.inr (.inr a))) : ∃ j : Nat, a = -10 - (j : Int) := by
  by_cases h16 : own < 15
  · have h1 := List.all_eq_true.mp (List.all_eq_true.mp k_txt own (List.mem_range.mpr h16)) _ (m_l_mem h)
    have h2 : a ≤ -10 := by simpa using h1
    exact ⟨(-10 - a).toNat, by omega⟩
  · match own, h16 with
    | n + 15, _ => cases h
    | 0, z | 1, z | 2, z | 3, z | 4, z | 5, z | 6, z | 7, z | 8, z | 9, z | 10, z | 11, z | 12, z | 13, z | 14, z => exact absurd (by decide) z
set_option maxHeartbeats 4000000 in
theorem sim_ex (C : Cx p s m args meth c cc A q) {xs : Int → Int} {L : Int} (hX : SX b A xs L s) (hO : va_AO RX5 s ∧ va_AO RX2 s ∧ va_AO RX10 s) (hZ : SK sA args s) {pc n : Nat} {ls : ML} {st : List MV} {h : MH} {op : Instr} (hdg : decode cc pc = .ok (op, n)) (hn : n = m_len op) (hne : ∀ (i dm : Nat), op ≠ .multianewarray i dm)
    (hr1 : (m_ex (m_P q.1) m_ft q xs L op pc ls st h).2.2.2.1.1 ≤ zc + R.cells) (hr2 : (m_ex (m_P q.1) m_ft q xs L op pc ls st h).2.2.2.1.2.1 ≤ zs + R.slots)
    (hok : m_ok (m_ex (m_P q.1) m_ft q xs L op pc ls st h).2.2.2 = true) (k : Go p l e R s m args below meth c Q w0 D A sA b nL zc zs (m_ex (m_P q.1) m_ft q xs L op pc ls st h)) : Go p l e R s m args below meth c Q w0 D A sA b nL zc zs (pc, ls, st, h) := by
  have hx := C.1
  have hb := C.2.1
  subst hn
  cases op
  case iconst n =>
    have h9 := (m_chk_ok hok).1
    simp only [Bool.and_eq_true, decide_eq_true_eq] at h9
    exact go_push (x := .inl n) (v := .int (Int32.ofInt n)) (fun _ => ⟨_, rfl, Int32.toInt_ofInt_of_le (by omega) (by omega)⟩) (fun H locs cells slots lsR rest kk => lv_iconst hx hb hdg rfl kk) k
  case bipush n =>
    have h9 := (m_chk_ok hok).1
    simp only [Bool.and_eq_true, decide_eq_true_eq] at h9
    exact go_push (x := .inl n) (v := .int (Int8.ofInt n).toInt32) (fun _ => ⟨_, rfl, m_bip h9.1 h9.2⟩) (fun H locs cells slots lsR rest kk => lv_bipush hx hb hdg rfl kk) k
  case sipush n =>
    have h9 := (m_chk_ok hok).1
    simp only [Bool.and_eq_true, decide_eq_true_eq] at h9
    exact go_push (x := .inl n) (v := .int (Int16.ofInt n).toInt32) (fun _ => ⟨_, rfl, m_sip h9.1 h9.2⟩) (fun H locs cells slots lsR rest kk => lv_sipush hx hb hdg rfl kk) k
  case lconst n =>
    exact go_push (t := true) (x := .inr (.inl ((n : Nat) : Int))) (v := .long (Int64.ofNat (n : Nat))) (fun _ => ⟨_, rfl, by match n with | 0 => rfl | 1 => rfl⟩) (fun H locs cells slots lsR rest kk => lv_lconst hx hb hdg rfl kk) k
  case aconst_null =>
    exact go_push (t := true) (x := .inr (.inr (-1))) (v := .null) (fun _ => Or.inl ⟨rfl, rfl⟩) (fun H locs cells slots lsR rest kk => lv_null hx hb hdg kk) k
  case iload_n j =>
    exact go_ix (fun H locs cells slots lsR rest x hl kk => lv_iload_n hx hb hdg rfl hl kk) hok k
  case iload j =>
    exact go_ix (fun H locs cells slots lsR rest x hl kk => lv_iload hx hb hdg hl kk) hok k
  case lload_n j =>
    exact go_lx (fun H locs cells slots lsR rest x hl kk => lv_lload_n hx hb hdg rfl hl kk) hok k
  case lload j =>
    exact go_lx (fun H locs cells slots lsR rest x hl kk => lv_lload hx hb hdg hl kk) hok k
  case aload_n j =>
    exact go_ax C (fun H locs cells slots lsR rest x hl kk => lv_aload_n hx hb hdg rfl hl kk) (fun H locs cells slots lsR rest hl kk => lv_aload_nN hx hb hdg rfl hl kk) hok k
  case aload j =>
    exact go_ax C (fun H locs cells slots lsR rest x hl kk => lv_aload hx hb hdg hl kk) (fun H locs cells slots lsR rest hl kk => lv_aloadN hx hb hdg hl kk) hok k
  case istore_n j =>
    exact go_is (fun H locs cells slots lsR rest x lv hl hi kk => lv_istore_n hx hb hdg rfl hl hi rfl kk) hok k
  case istore j =>
    exact go_is (fun H locs cells slots lsR rest x lv hl hi kk => lv_istore hx hb hdg hl hi rfl kk) hok k
  case lstore_n j =>
    exact go_sto2 (fun H locs cells slots lsR rest x lv hl hi kk => lv_lstore_n hx hb hdg rfl hl hi rfl kk) hok k
  case lstore j =>
    exact go_sto2 (fun H locs cells slots lsR rest x lv hl hi kk => lv_lstore hx hb hdg hl hi rfl kk) hok k
  case astore_n j =>
    exact go_as (fun H locs cells slots lsR rest x lv hl hi kk => lv_astore_n hx hb hdg rfl hl hi rfl kk) (fun H locs cells slots lsR rest lv hl hi kk => lv_astore_nN hx hb hdg rfl hl hi rfl kk) hok k
  case astore j =>
    exact go_as (fun H locs cells slots lsR rest x lv hl hi kk => lv_astore hx hb hdg hl hi rfl kk) (fun H locs cells slots lsR rest lv hl hi kk => lv_astoreN hx hb hdg hl hi rfl kk) hok k
  case iinc i n =>
    simp only [m_ex] at hok k
    split at hok
    · rename_i x hg
      rw [hg] at k
      exact go_iinc C hdg hg (Nat.blt_eq.mp (m_chk_ok hok).1) k
    · exact (m_no_ok hok).elim
  case iadd =>
    exact go_ii m_add32 (fun H locs cells slots lsR rest x y _ kk => lv_iadd hx hb hdg kk) hok k
  case isub =>
    exact go_ii m_sub32 (fun H locs cells slots lsR rest x y _ kk => lv_isub hx hb hdg kk) hok k
  case imul =>
    exact go_ii m_mul32 (fun H locs cells slots lsR rest x y _ kk => lv_imul hx hb hdg kk) hok k
  case idiv =>
    exact go_ii m_div32 (fun H locs cells slots lsR rest x y h9 kk => lv_idiv hx hb hdg (m_ne0 h9) kk) hok k
  case irem =>
    exact go_ii (F := fun x y => x - x / y * y) m_rem32 (fun H locs cells slots lsR rest x y h9 kk => lv_irem hx hb hdg (m_ne0 h9) kk) hok k
  case iand =>
    exact go_ii (F := fun x y => x &&& y) (fun x y => by simp only [m_band, Int32.ofInt_toInt]) (fun H locs cells slots lsR rest x y _ kk => lv_iand hx hb hdg kk) hok k
  case ior =>
    exact go_ii (F := fun x y => x ||| y) (fun x y => by simp only [m_bor, Int32.ofInt_toInt]) (fun H locs cells slots lsR rest x y _ kk => lv_ior hx hb hdg kk) hok k
  case ixor =>
    exact go_ii (F := fun x y => x ^^^ y) (fun x y => by simp only [m_bxor, Int32.ofInt_toInt]) (fun H locs cells slots lsR rest x y _ kk => lv_ixor hx hb hdg kk) hok k
  case ishl =>
    exact go_ii (F := fun x y => x <<< (y &&& 31)) (fun x y => by simp only [m_shl, Int32.ofInt_toInt]) (fun H locs cells slots lsR rest x y _ kk => lv_ishl hx hb hdg kk) hok k
  case ishr =>
    exact go_ii (F := fun x y => x >>> (y &&& 31)) (fun x y => by simp only [m_shr, Int32.ofInt_toInt]) (fun H locs cells slots lsR rest x y _ kk => lv_ishr hx hb hdg kk) hok k
  case iushr =>
    exact go_ii (F := fun x y => (x.toUInt32 >>> (y.toUInt32 &&& Int32.toUInt32 31)).toInt32) (fun x y => by simp only [m_ushr, Int32.ofInt_toInt]) (fun H locs cells slots lsR rest x y _ kk => lv_iushr hx hb hdg rfl kk) hok k
  case ladd =>
    exact go_ll m_add64 (fun H locs cells slots lsR rest x y _ kk => lv_ladd hx hb hdg kk) hok k
  case lsub =>
    exact go_ll m_sub64 (fun H locs cells slots lsR rest x y _ kk => lv_lsub hx hb hdg kk) hok k
  case lmul =>
    exact go_ll m_mul64 (fun H locs cells slots lsR rest x y _ kk => lv_lmul hx hb hdg kk) hok k
  case ldiv =>
    exact go_ll m_div64 (fun H locs cells slots lsR rest x y h9 kk => lv_ldiv hx hb hdg (m_ne064 h9) kk) hok k
  case lrem =>
    exact go_ll (F := fun x y => x - x / y * y) m_rem64 (fun H locs cells slots lsR rest x y h9 kk => lv_lrem hx hb hdg (m_ne064 h9) kk) hok k
  case land =>
    exact go_ll (F := fun x y => x &&& y) (fun x y => by simp only [m_land, Int64.ofInt_toInt]) (fun H locs cells slots lsR rest x y _ kk => lv_land hx hb hdg kk) hok k
  case lor =>
    exact go_ll (F := fun x y => x ||| y) (fun x y => by simp only [m_lor, Int64.ofInt_toInt]) (fun H locs cells slots lsR rest x y _ kk => lv_lor hx hb hdg kk) hok k
  case lshl =>
    simp only [m_ex] at hok k
    split at hok
    · intro H locs cells slots ws tys lsR stR hW hS hc hs hL hSt
      dsimp only at hW hc hs hL hSt
      obtain ⟨v0, r0, rfl, hv0, h0⟩ := RS.cons hSt
      obtain ⟨v1, r1, rfl, hv1, h1⟩ := RS.cons h0
      obtain ⟨ny, rfl, rfl⟩ := hv0.int
      obtain ⟨nx, rfl, rfl⟩ := hv1.lng
      exact lv_lshl hx hb hdg rfl (k H locs cells slots ws tys lsR _ hW hS hc hs hL ⟨⟨_, rfl, by simp only [m_lshl, Int32.ofInt_toInt, Int64.ofInt_toInt]⟩, h1⟩)
    · exact (m_no_ok hok).elim
  case lcmp =>
    simp only [m_ex] at hok k
    split at hok
    · intro H locs cells slots ws tys lsR stR hW hS hc hs hL hSt
      dsimp only at hW hc hs hL hSt
      obtain ⟨v0, r0, rfl, hv0, h0⟩ := RS.cons hSt
      obtain ⟨v1, r1, rfl, hv1, h1⟩ := RS.cons h0
      obtain ⟨ny, rfl, rfl⟩ := hv0.lng
      obtain ⟨nx, rfl, rfl⟩ := hv1.lng
      exact W.lcmp hx hb hdg (k H locs cells slots ws tys lsR _ hW hS hc hs hL ⟨⟨_, rfl, m_lcmp_ok nx ny⟩, h1⟩)
    · exact (m_no_ok hok).elim
  case i2l =>
    simp only [m_ex] at hok k
    split at hok
    · intro H locs cells slots ws tys lsR stR hW hS hc hs hL hSt
      dsimp only at hW hc hs hL hSt
      obtain ⟨v0, r0, rfl, hv0, h0⟩ := RS.cons hSt
      obtain ⟨nx, rfl, rfl⟩ := hv0.int
      exact lv_i2l hx hb hdg rfl (k H locs cells slots ws tys lsR _ hW hS hc hs hL ⟨⟨_, rfl, Int32.toInt_toInt64 nx⟩, h0⟩)
    · exact (m_no_ok hok).elim
  case l2i =>
    simp only [m_ex] at hok k
    split at hok
    · intro H locs cells slots ws tys lsR stR hW hS hc hs hL hSt
      dsimp only at hW hc hs hL hSt
      obtain ⟨v0, r0, rfl, hv0, h0⟩ := RS.cons hSt
      obtain ⟨nx, rfl, rfl⟩ := hv0.lng
      exact lv_l2i hx hb hdg rfl (k H locs cells slots ws tys lsR _ hW hS hc hs hL ⟨⟨_, rfl, by rw [m_w32_b, Int64.toInt_toInt32]⟩, h0⟩)
    · exact (m_no_ok hok).elim
  case i2b =>
    simp only [m_ex] at hok k
    split at hok
    · intro H locs cells slots ws tys lsR stR hW hS hc hs hL hSt
      dsimp only at hW hc hs hL hSt
      obtain ⟨v0, r0, rfl, hv0, h0⟩ := RS.cons hSt
      obtain ⟨nx, rfl, rfl⟩ := hv0.int
      exact lv_i2b hx hb hdg rfl (k H locs cells slots ws tys lsR _ hW hS hc hs hL ⟨⟨_, rfl, by simp only [m_i2b, Int32.ofInt_toInt]⟩, h0⟩)
    · exact (m_no_ok hok).elim
  case dup =>
    simp only [m_ex] at hok k
    split at hok
    · intro H locs cells slots ws tys lsR stR hW hS hc hs hL hSt
      dsimp only at hW hc hs hL hSt
      obtain ⟨v0, r0, rfl, hv0, h0⟩ := RS.cons hSt
      exact lv_dup hx hb hdg (hv0.cat.2 (fun y z => by cases z)) (k H locs cells slots ws tys lsR _ hW hS hc hs hL ⟨hv0, hv0, h0⟩)
    · intro H locs cells slots ws tys lsR stR hW hS hc hs hL hSt
      dsimp only at hW hc hs hL hSt
      obtain ⟨v0, r0, rfl, hv0, h0⟩ := RS.cons hSt
      exact lv_dup hx hb hdg (hv0.cat.2 (fun y z => by cases z)) (k H locs cells slots ws tys lsR _ hW hS hc hs hL ⟨hv0, hv0, h0⟩)
    · exact (m_no_ok hok).elim
  case dup2 =>
    simp only [m_ex] at hok k
    split at hok
    · intro H locs cells slots ws tys lsR stR hW hS hc hs hL hSt
      dsimp only at hW hc hs hL hSt
      obtain ⟨v0, r0, rfl, hv0, h0⟩ := RS.cons hSt
      obtain ⟨v1, r1, rfl, hv1, h1⟩ := RS.cons h0
      exact lv_dup2_11 hx hb hdg (hv0.cat.2 (fun y z => by cases z)) (hv1.cat.2 (fun y z => by cases z)) (k H locs cells slots ws tys lsR _ hW hS hc hs hL ⟨hv0, hv1, hv0, hv1, h1⟩)
    · exact (m_no_ok hok).elim
  case pop =>
    simp only [m_ex] at hok k
    split at hok
    · intro H locs cells slots ws tys lsR stR hW hS hc hs hL hSt
      dsimp only at hW hc hs hL hSt
      obtain ⟨v0, r0, rfl, hv0, h0⟩ := RS.cons hSt
      exact lv_pop hx hb hdg (hv0.cat.2 (fun y z => by cases z)) (k H locs cells slots ws tys lsR _ hW hS hc hs hL h0)
    · intro H locs cells slots ws tys lsR stR hW hS hc hs hL hSt
      dsimp only at hW hc hs hL hSt
      obtain ⟨v0, r0, rfl, hv0, h0⟩ := RS.cons hSt
      exact lv_pop hx hb hdg (hv0.cat.2 (fun y z => by cases z)) (k H locs cells slots ws tys lsR _ hW hS hc hs hL h0)
    · exact (m_no_ok hok).elim
  case getfield i =>
    exact go_get C hdg hok k
  case putfield i =>
    simp only [m_ex] at hok k
    split at hok
    · rename_i hp
      rw [hp] at k
      exact go_put C hdg hp (m_chk_ok hok).1 k
    · rename_i hp
      rw [hp] at k
      exact go_put C hdg hp (m_chk_ok hok).1 k
    · rename_i hp
      rw [hp] at k
      exact go_put C hdg hp (m_chk_ok hok).1 k
    · exact (m_no_ok hok).elim
  case ldc i =>
    simp only [m_ex] at hok k
    split at hok
    · rename_i x hp
      rw [hp] at k
      exact go_k C hZ hp (Or.inl ⟨hdg, rfl⟩) (fun z y => by intro w; cases w) (fun a ha => by cases ha) k
    · rename_i x hp
      rw [hp] at k
      exact go_k C hZ hp (Or.inl ⟨hdg, rfl⟩) (fun z y => by intro w; cases w) (fun a ha => k_txt_use (ha ▸ hp)) k
    · exact (m_no_ok hok).elim
  case ldc_w i =>
    simp only [m_ex] at hok k
    split at hok
    · rename_i x hp
      rw [hp] at k
      exact go_k C hZ hp (Or.inr (Or.inl ⟨hdg, rfl, x, rfl⟩)) (fun z => absurd z (by decide)) (fun a ha => by cases ha) k
    · exact (m_no_ok hok).elim
  case ldc2_w i =>
    simp only [m_ex] at hok k
    split at hok
    · rename_i x hp
      rw [hp] at k
      exact go_k C hZ hp (Or.inr (Or.inr ⟨hdg, rfl, x, rfl⟩)) (fun z => absurd z (by decide)) (fun a ha => by cases ha) k
    · exact (m_no_ok hok).elim
  case multianewarray i dm => exact absurd rfl (hne i dm)
  case arraylength =>
    simp only [m_ex] at hok k
    split at hok
    · rename_i a r
      split at hok
      · rename_i ha
        subst ha
        dsimp only at k
        rw [if_pos rfl] at k
        exact go_slen C hX hdg k
      · rename_i ha
        dsimp only at k
        rw [if_neg ha] at k
        have h9 := (m_chk_ok hok).1
        simp only [Bool.and_eq_true, decide_eq_true_eq] at h9
        exact go_alen C hdg h9.1 h9.2 k
    · exact (m_no_ok hok).elim
  case iaload =>
    simp only [m_ex] at hok k
    split at hok
    · rename_i i a r
      split at hok
      · rename_i ha
        subst ha
        dsimp only at k
        rw [if_pos rfl] at k
        have h9 := (m_chk_ok hok).1
        simp only [Bool.and_eq_true, decide_eq_true_eq] at h9
        exact go_sld C hX hdg h9.1 h9.2 k
      · rename_i ha
        dsimp only at k
        rw [if_neg ha] at k
        exact go_iald C hdg (m_chk_ok hok).1 k
    · exact (m_no_ok hok).elim
  case laload =>
    simp only [m_ex] at hok k
    split at hok
    · exact go_lald C hdg (m_chk_ok hok).1 k
    · exact (m_no_ok hok).elim
  case iastore =>
    simp only [m_ex] at hok k
    split at hok
    · exact go_iast C hdg (m_chk_ok hok).1 k
    · exact (m_no_ok hok).elim
  case lastore =>
    simp only [m_ex] at hok k
    split at hok
    · exact go_last C hdg (m_chk_ok hok).1 k
    · exact (m_no_ok hok).elim
  case baload =>
    simp only [m_ex] at hok k
    split at hok
    · have h9 := (m_chk_ok hok).1
      rw [Bool.or_eq_true] at h9
      rcases h9 with h9 | h9
      · exact go_bald C hdg h9 k
      · exact go_zald C hdg h9 k
    · exact (m_no_ok hok).elim
  case bastore =>
    simp only [m_ex] at hok k
    split at hok
    · have h9 := (m_chk_ok hok).1
      rw [Bool.or_eq_true] at h9
      rcases h9 with h9 | h9
      · dsimp only at k
        rw [if_pos (m_in_ok h9).1] at k
        exact go_bast C hdg h9 k
      · dsimp only at k
        rw [if_neg (by rw [(m_in_ok h9).1]; decide)] at k
        exact go_zast C hdg h9 k
    · exact (m_no_ok hok).elim
  case aaload =>
    simp only [m_ex] at hok k
    split at hok
    · have h9 := (m_chk_ok hok).1
      simp only [Bool.or_eq_true] at h9
      rcases h9 with ((h9 | h9) | h9) | h9
      · exact go_aald C hdg ⟨Or.inl (m_in_ok h9).1, (m_in_ok h9).2⟩ k
      · exact go_aald C hdg ⟨Or.inr (Or.inl (m_in_ok h9).1), (m_in_ok h9).2⟩ k
      · exact go_aald C hdg ⟨Or.inr (Or.inr (m_in_ok h9).1), (m_in_ok h9).2⟩ k
      · exact go_rald C hdg (m_in_ok h9) k
    · exact (m_no_ok hok).elim
  case aastore =>
    simp only [m_ex] at hok k
    split at hok
    · have h9 := (m_chk_ok hok).1
      simp only [Bool.or_eq_true, Bool.and_eq_true] at h9
      rcases h9 with (h9 | h9) | h9
      · exact go_aast (ci := 5) C hdg (Or.inl ⟨h9.1, h9.2, rfl⟩) k
      · exact go_aast (ci := 2) C hdg (Or.inr (Or.inl ⟨h9.1, h9.2, rfl⟩)) k
      · exact go_aast (ci := 10) C hdg (Or.inr (Or.inr ⟨h9.1, h9.2, rfl⟩)) k
    · exact (m_no_ok hok).elim
  case newarray t =>
    simp only [m_ex] at hok k
    split at hok
    · rename_i n r
      have h9 := (m_chk_ok hok).1
      rw [Bool.and_eq_true] at h9
      have hsm := h9.1
      have hsm' := hsm
      simp only [m_sm, Bool.and_eq_true, decide_eq_true_eq] at hsm'
      simp only [m_ex] at hr1 hr2
      cases t
      case int => exact go_newa (ty := .int) C hdg hsm na_int rfl (by decide) (fun N => ⟨(N, .inl (fun _ => 0)), fun cA => rfl, fun ws tys cA t hN ht => Or.inl ⟨rfl, hsm'.1, hsm'.2, cA, t, _, by rw [← hN, Int.toNat_natCast], ht, fun j hj => rfl⟩⟩) hr1 hr2 k
      case long => exact go_newa (ty := .long) C hdg hsm na_long rfl (by decide) (fun N => ⟨(N, .inr (.inl (fun _ => 0))), fun cA => rfl, fun ws tys cA t hN ht => Or.inr (Or.inl ⟨rfl, hsm'.1, hsm'.2, cA, t, _, by rw [← hN, Int.toNat_natCast], ht, fun j hj => rfl⟩)⟩) hr1 hr2 k
      case byte => exact go_newa (ty := .byte) C hdg hsm na_byte rfl (by decide) (fun N => ⟨(N, .inl (fun _ => 0)), fun cA => rfl, fun ws tys cA t hN ht => Or.inr (Or.inr (Or.inl ⟨rfl, hsm'.1, hsm'.2, cA, t, _, by rw [← hN, Int.toNat_natCast], ht, fun j hj => rfl⟩))⟩) hr1 hr2 k
      case boolean => exact go_newa (ty := .boolean) C hdg hsm na_bool rfl (by decide) (fun N => ⟨(N, .inl (fun _ => 0)), fun cA => rfl, fun ws tys cA t hN ht => Or.inr (Or.inr (Or.inr (Or.inl ⟨rfl, hsm'.1, hsm'.2, cA, t, _, by rw [← hN, Int.toNat_natCast], ht, fun j hj => rfl⟩)))⟩) hr1 hr2 k
      all_goals exact absurd (of_decide_eq_true h9.2) (by decide)
    · exact (m_no_ok hok).elim
  case anewarray i =>
    simp only [m_ex] at hok k hr1 hr2
    split at hok
    · rename_i n r kd hp
      rw [hp] at k hr1 hr2
      have h9 := (m_chk_ok hok).1
      simp only [Bool.and_eq_true] at h9
      exact go_newq C hO hdg hp h9.1.1 ⟨Nat.le_of_ble_eq_true h9.1.2, Nat.le_of_ble_eq_true h9.2⟩ hr1 hr2 k
    · exact (m_no_ok hok).elim
  case new i =>
    simp only [m_ex] at hok k hr1 hr2
    split at hok
    · rename_i kd hp
      rw [hp] at k hr1 hr2
      have h9 := Nat.le_of_ble_eq_true (m_chk_ok hok).1
      obtain ⟨ci, rfl⟩ : ∃ ci, kd = 100 + ci := ⟨kd - 100, by omega⟩
      simp only [show 100 + ci - 100 = ci by omega] at k hr1 hr2
      refine go_new C hdg hp ?_ hr1 hr2 k
      have h1 := List.all_eq_true.mp (n_use q.1) _ (m_l_mem hp)
      simp only [Bool.and_eq_true] at h1
      have h2 := h1.1
      unfold n_ok at h2
      dsimp only at h2
      rw [show 100 + ci - 100 = ci by omega] at h2
      cases hv : vwCl[ci]? with
      | none =>
        rw [hv] at h2
        have := Nat.blt_eq.mp h2
        omega
      | some rr => exact ⟨rr, rfl⟩
    · exact (m_no_ok hok).elim
  all_goals exact (m_no_ok hok).elim
end GoM
