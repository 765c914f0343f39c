/-! FROM THE LAW'S ENTRY TO ITS LOOP -/
theorem al_kd {h : MH} {k n : Int} {ns : Nat} {g : Int → Int} : m_kd (m_al h k n ns g) (h.1.1 : Int) = k := by simp [m_kd, m_al]
theorem law_run {xs : Int → Int} {L : Int} {r : Int × MH} (hF : FL_law xs L 0 334 FU 0 hB1 = some r) : RN xs L iL_law 51 0 (lvE 0 [.inr (.inr (-2))]) [] h_0 (RIo r) := by
  refine RN.blk (ops := [(0, .new 7), (3, .dup)]) (pc' := 4) (lv' := [(0, .inr (.inr (-2)))]) (st' := [.inr (.inr 0), .inr (.inr 0)]) (h' := hA0) (cs := []) (by decide +kernel) rfl trivial ?_
  refine RN.ci2 (i := 9) (k := nX11_init) (q2 := iX11_init) (as := [.inr (.inr 0)]) (r := [.inr (.inr 0)]) (v := none) (h1 := hA1) (by decide +kernel) rfl rfl rfl rfl rfl (by decide +kernel) new_A ?_
  refine RN.blk (ops := [(7, .astore_n 1), (8, .new 10), (11, .dup)]) (pc' := 12) (lv' := [(1, .inr (.inr 0)), (0, .inr (.inr (-2)))]) (st' := [.inr (.inr (hA1.1.1 : Int)), .inr (.inr (hA1.1.1 : Int))]) (h' := hB0) (cs := []) (by decide +kernel) rfl trivial ?_
  rw [show (hA1.1.1 : Int) = 334 by rw [hA1_c]; rfl]
  refine RN.ci2 (i := 12) (k := nX12_init) (q2 := iX12_init) (as := [.inr (.inr 334)]) (r := [.inr (.inr 334)]) (v := none) (h1 := hB1) (by decide +kernel) rfl rfl rfl rfl rfl (by decide +kernel) new_B ?_
  refine RN.blk (ops := [(15, .astore_n 2), (16, .iconst 0), (17, .istore_n 3)]) (pc' := 18) (lv' := [(3, .inl 0), (2, .inr (.inr 334)), (1, .inr (.inr 0)), (0, .inr (.inr (-2)))]) (st' := []) (h' := hB1) (cs := []) (by decide +kernel) rfl trivial ?_
  exact RN.sub (CL_law (d := 0) FU 0 hB1 hF) (sub_cons rfl (sub_cons rfl (sub_cons rfl (sub_cons rfl sub_nil))))
/-- WHAT IS LEFT: the law's loop, as a function, answers 1 -/
def Owed : Prop := ∀ (xs : Int → Int) (L : Int), 0 ≤ L → L ≤ 3072 → (∀ j, -2147483648 ≤ xs j ∧ xs j ≤ 2147483647) → ∃ hf : MH, FL_law xs L 0 334 FU 0 hB1 = some (1, hf) ∧ m_ok hf = true ∧ hf.1.1 ≤ 600000 ∧ hf.1.2.1 ≤ 7302250
theorem start_owed (hO : Owed) {p : Program} {e : Env} {s : State} {m : MethodId} {below : List Frame} {meth : Method} {c : Code} (l : Launch) {b L : Nat} {xs : Nat → Int32} (hL : L ≤ 3072) (C0 : lw_At p s m meth c b L xs) : W p l e room_1 s m #[Value.ref b] below meth c s.heap [] 0 0 (lw_Z below #[Value.ref b] s) (entryFrame m ([Value.ref b] : List Value).toArray 4) := by
  obtain ⟨hf, h1, h2, h3, h4⟩ := hO (fun j => (xs j.toNat).toInt) L (by omega) (by omega) (fun j => ⟨Int32.le_toInt _, Int32.toInt_le _⟩)
  obtain ⟨N, hN⟩ := law_run h1 (m_ent 4 [.inr (.inr (-2))]) rfl Kn_ent
  exact start_of l hL C0 (n := N) (d := 51) (hf := hf) (by decide) (hN N (Nat.le_refl _)) h2 h3 h4
