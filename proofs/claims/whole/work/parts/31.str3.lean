section GoS3
variable {p : Program} {l : Launch} {e : Env} {R : Room} {s : State} {m : MethodId} {args : Array Value} {below : List Frame} {meth : Method} {c : Code} {Q : State → Prop} {cc : ByteArray} {w0 : va_W} {D : va_G} {A : Nat → Prop} {sA : Nat → Nat} {b nL zc zs : Nat} {q : MI}
theorem WR.kept {h : MH} {H H1 : Heap} {ws : va_W} {tys : List (ClassId × FieldType)} (hW : WR w0 D A sA b h s H ws tys) (hq : ∀ q : Nat, q < H.size → H1[q]? = H[q]?) : WR w0 D A sA b h s H1 ws tys :=
  ⟨hW.1, hW.2.1.kept (fun k x hx => hq x.1 ((hW.2.1 k x hx).lt)), hW.2.2⟩
theorem txt_of {ws : va_W} {a : Int} {v : Value} (h : RV ws sA b (.inr (.inr a)) v) (h1 : a ≤ -10) (h2 : -10 - (m_nS : Int) < a) : v = .ref (sA (-10 - a).toNat) ∧ (-10 - a).toNat < m_nS := by
  rcases h with ⟨z, -⟩ | ⟨z, -⟩ | ⟨j, -, z, rfl⟩ | ⟨k, q, e, z, -, -⟩
  · omega
  · omega
  · have : (-10 - a).toNat = j := by omega
    rw [this]
    exact ⟨rfl, by omega⟩
  · omega
theorem ST.narr {adV : Nat → Nat} {U : State} {H : Heap} {locs : List Loc} (hT : vk_S m_nS m_sl m_sb sA adV A s s.heap ∧ va_Z "java/lang/String" "COMPACT_STRINGS" "Z" (.int 1) A s s.heap ∧ va_Zq "jdk/internal/util/Preconditions" "SIOOBE_FORMATTER" "Ljava/util/function/BiFunction;" A s s.heap) (hU : U.heap = H) (hW : s.WarmedH U.vm) (hS : va_S A s.heap H locs) : STn sA adV U := by
  unfold STn
  rw [hU]
  exact ⟨((hT.1.kept hS.2.1).moved hW.alike).narrow (fun _ h => h.elim), ((hT.2.1.kept hS.2.1).moved hW.alike).narrow (fun _ h => h.elim), ((hT.2.2.kept hS.2.1).moved hW.alike).narrow (fun _ h => h.elim)⟩
theorem go_sl (C : Cx p s m args meth c cc A q) {xs : Int → Int} {L : Int} (hE : EV sA b A xs L s) {pc i : Nat} {ls : ML} {r : List MV} {h : MH} {a : Int} (hl : m_l (m_M q.1).1 i = some 1002) (hdg : decode cc pc = .ok (.invokevirtual i, 3)) (hf : 6 ≤ R.frames) (hlo : 384 ≤ R.locals) (hr1 : h.1.1 ≤ zc + R.cells) (hr2 : h.1.2.1 ≤ zs + R.slots) (hsum : m_sum r ≤ 8) (hnL : nL = q.2.2.2.1) (ha : a ≤ -10) (ha2 : -10 - (m_nS : Int) < a)
    (k : Go p l e R s m args below meth c Q w0 D A sA b nL zc zs (pc + 3, ls, .inl ((m_str (-10 - a).toNat).length : Int) :: r, h)) : Go p l e R s m args below meth c Q w0 D A sA b nL zc zs (pc, ls, .inr (.inr a) :: r, h) := by
  intro H locs cells slots ws tys lsR stR hW hS hc hs hL hSt
  dsimp only at hW hc hs hL hSt
  obtain ⟨v2, r2, rfl, hv2, h2⟩ := RS.cons hSt
  obtain ⟨rfl, hj⟩ := txt_of hv2 ha ha2
  obtain ⟨l1, l2, l3⟩ := sj_1 _ hj
  obtain ⟨adV, hT⟩ := hE.2.2.2.2
  obtain ⟨hx, hb, hml, hown, hts, -⟩ := C
  have hlk := lkV_all q.1 _ (m_l_mem hl)
  have hm : m_mj 1002 = none := rfl
  unfold LkV at hlk
  dsimp only at hlk
  rw [hm] at hlk
  rcases hlk with ⟨-, hlk⟩ | ⟨z, -⟩
  · refine st_back (A := A) (v := some (.int (Int32.ofNat (m_sl.getD (-10 - a).toNat 0)))) (rest := r2) (va_runV (bytes := cJ0_length_8abf5) (maxL := 1) (ret := some .int) (b := sA (-10 - a).toNat) (As := []) (rest := r2) (C := RJ0) (own := Rn q.1) (index := i) (n := 0) ⟨hx, hb, hml, hown, hts⟩ (st_len (sA := sA) (adV := adV) hj) ⟨callB_of _ hts (GoodIn.sub wt_6) rfl rfl rfl (hts _ wu_5) (hts _ hlk) (by decide +kernel) ⟨by show 1 + 1 ≤ _; omega, by show 8 + (1 + 11) + 40 * 1 ≤ _; omega⟩, hts _ wv_2, hts _ wv_4⟩ ⟨SPc.blind, vk_recv hT.1 hj hS, fun U hU hWm => ⟨rfl, ST.narr hT hU hWm hS⟩⟩ rfl rfl (by rw [← hnL]; exact hL.sz) rfl (lv_room (by rw [h2.sum]; exact hsum)) hdg ⟨by omega, by omega⟩) hS (fun H1 locs1 z1 z2 hS1 => ?_)
    refine k H1 locs1 cells slots ws tys lsR _ (hW.kept z2) hS1 hc hs hL ⟨⟨_, rfl, ?_⟩, h2⟩
    rw [show Int32.ofNat (m_sl.getD (-10 - a).toNat 0) = nI (m_sl.getD (-10 - a).toNat 0) from rfl, nI_toInt (by omega), l2]
  · omega
theorem go_sc (C : Cx p s m args meth c cc A q) {xs : Int → Int} {L : Int} (hE : EV sA b A xs L s) {pc i : Nat} {ls : ML} {r : List MV} {h : MH} {a x : Int} (hl : m_l (m_M q.1).1 i = some 1003) (hdg : decode cc pc = .ok (.invokevirtual i, 3)) (hf : 6 ≤ R.frames) (hlo : 384 ≤ R.locals) (hr1 : h.1.1 ≤ zc + R.cells) (hr2 : h.1.2.1 ≤ zs + R.slots) (hsum : m_sum r ≤ 8) (hnL : nL = q.2.2.2.1) (ha : a ≤ -10) (ha2 : -10 - (m_nS : Int) < a) (hx0 : 0 ≤ x) (hx1 : x < ((m_str (-10 - a).toNat).length : Int))
    (k : Go p l e R s m args below meth c Q w0 D A sA b nL zc zs (pc + 3, ls, .inl ((m_str (-10 - a).toNat).getD x.toNat 0) :: r, h)) : Go p l e R s m args below meth c Q w0 D A sA b nL zc zs (pc, ls, .inl x :: .inr (.inr a) :: r, h) := by
  intro H locs cells slots ws tys lsR stR hW hS hc hs hL hSt
  dsimp only at hW hc hs hL hSt
  obtain ⟨v1, r1, rfl, hv1, h1⟩ := RS.cons hSt
  obtain ⟨v2, r2, rfl, hv2, h2⟩ := RS.cons h1
  obtain ⟨nx, rfl, rfl⟩ := hv1.int
  obtain ⟨rfl, hj⟩ := txt_of hv2 ha ha2
  obtain ⟨l1, l2, l3⟩ := sj_1 _ hj
  have hk : nx.toInt.toNat < m_sl.getD (-10 - a).toNat 0 := by omega
  have hni : nx = nI nx.toInt.toNat := Int32.toInt_inj.mp (by rw [nI_toInt (by omega)]; omega)
  obtain ⟨s1, s2⟩ := sj_2 _ hj _ hk
  obtain ⟨adV, hT⟩ := hE.2.2.2.2
  obtain ⟨hx, hb, hml, hown, hts, -⟩ := C
  have hlk := lkV_all q.1 _ (m_l_mem hl)
  have hm : m_mj 1003 = none := rfl
  unfold LkV at hlk
  dsimp only at hlk
  rw [hm] at hlk
  rcases hlk with ⟨z, -⟩ | ⟨-, hlk⟩
  · omega
  · refine st_back (A := A) (v := some (.int ((((m_sb.getD (-10 - a).toNat []).getD nx.toInt.toNat 0) &&& 255).toUInt32 % 65536).toInt32)) (rest := r2) (va_runV (bytes := cJ0_charAt_5068e) (maxL := 2) (ret := some .char) (b := sA (-10 - a).toNat) (As := [.int nx]) (rest := r2) (C := RJ0) (own := Rn q.1) (index := i) (n := 1) ⟨hx, hb, hml, hown, hts⟩ (st_at (sA := sA) (adV := adV) hj hk hni) ⟨callB_of _ hts (GoodIn.sub wt_7) rfl rfl rfl (hts _ wu_5) (hts _ hlk) (by decide +kernel) ⟨by show 3 + 1 ≤ _; omega, by show 8 + (2 + 11) + 40 * 3 ≤ _; omega⟩, hts _ wv_3, hts _ wv_5⟩ ⟨SPc.blind, vk_recv hT.1 hj hS, fun U hU hWm => ⟨rfl, ST.narr hT hU hWm hS⟩⟩ rfl rfl (by rw [← hnL]; exact hL.sz) rfl (lv_room (by rw [h2.sum]; exact hsum)) hdg ⟨by omega, by omega⟩) hS (fun H1 locs1 z1 z2 hS1 => ?_)
    exact k H1 locs1 cells slots ws tys lsR _ (hW.kept z2) hS1 hc hs hL ⟨⟨_, rfl, s1⟩, h2⟩
end GoS3
