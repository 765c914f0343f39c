/-! FROM THE LAW'S ENTRY TO ITS LOOP -/
theorem al_kd {h : MH} {k n : Int} {ns : Nat} {g : Int → Int} : m_kd (m_al h k n ns g) (h.1.1 : Int) = k := by simp [m_kd, m_al]
theorem law_mid {xs : Int → Int} {L : Int} {h1 : MH} {R : MR} (k : RN xs L iL_law 51 12 [(1, .inr (.inr 0)), (0, .inr (.inr (-2)))] [.inr (.inr (h1.1.1 : Int)), .inr (.inr (h1.1.1 : Int))] (m_al h1 112 0 (m_ft 12).length (fun j => bif Nat.beq ((m_ft 12).getD j.toNat 0) 2 then -1 else 0)) R) : RN xs L iL_law 51 7 [(0, .inr (.inr (-2)))] [.inr (.inr 0)] h1 R :=
  RN.blk (ops := [(7, .astore_n 1), (8, .new 10), (11, .dup)]) (cs := []) (by decide +kernel) rfl trivial k
theorem hB0_d : hB0 = m_al hA1 112 0 (m_ft 12).length (fun j => bif Nat.beq ((m_ft 12).getD j.toNat 0) 2 then -1 else 0) := by unfold hB0; rfl
theorem law_end {xs : Int → Int} {L : Int} {h1 : MH} {r : Int × MH} (hF : FL_law xs L 0 334 FU 0 h1 = some r) : RN xs L iL_law 51 15 [(1, .inr (.inr 0)), (0, .inr (.inr (-2)))] [.inr (.inr 334)] h1 (RIo r) := by
  refine RN.blk (ops := [(15, .astore_n 2), (16, .iconst 0), (17, .istore_n 3)]) (pc' := 18) (lv' := [(3, .inl 0), (2, .inr (.inr 334)), (1, .inr (.inr 0)), (0, .inr (.inr (-2)))]) (st' := []) (h' := h1) (cs := []) (by decide +kernel) rfl trivial ?_
  exact RN.sub (CL_law (d := 0) FU 0 h1 hF) (sub_cons rfl (sub_cons rfl (sub_cons rfl (sub_cons rfl sub_nil))))
theorem rcv_A : m_rcv 11 [.inr (.inr 0)] hA0 = true := by decide +kernel
theorem rcv_B : m_rcv 12 [.inr (.inr 334)] hB0 = true := by decide +kernel
theorem law_c2 {xs : Int → Int} {L : Int} {h0 h1 : MH} {R : MR} (hr : m_rcv 12 [.inr (.inr 334)] h0 = true) (hn : ∃ N : Nat, ∀ n : Nat, N ≤ n → m_run xs L n 50 iX12_init 0 (m_ent 1 [.inr (.inr 334)]) [] h0 = (none, h1)) (k : RN xs L iL_law 51 15 [(1, .inr (.inr 0)), (0, .inr (.inr (-2)))] [.inr (.inr 334)] h1 R) : RN xs L iL_law 51 12 [(1, .inr (.inr 0)), (0, .inr (.inr (-2)))] [.inr (.inr 334), .inr (.inr 334)] h0 R :=
  RN.ci2 (i := 12) (k := nX12_init) (q2 := iX12_init) (as := [.inr (.inr 334)]) (r := [.inr (.inr 334)]) (v := none) (h1 := h1) (by decide +kernel) rfl rfl rfl rfl rfl hr hn k
theorem law_c1 {xs : Int → Int} {L : Int} {h0 h1 : MH} {R : MR} (hr : m_rcv 11 [.inr (.inr 0)] h0 = true) (hn : ∃ N : Nat, ∀ n : Nat, N ≤ n → m_run xs L n 50 iX11_init 0 (m_ent 2 [.inr (.inr 0)]) [] h0 = (none, h1)) (k : RN xs L iL_law 51 7 [(0, .inr (.inr (-2)))] [.inr (.inr 0)] h1 R) : RN xs L iL_law 51 4 [(0, .inr (.inr (-2)))] [.inr (.inr 0), .inr (.inr 0)] h0 R :=
  RN.ci2 (i := 9) (k := nX11_init) (q2 := iX11_init) (as := [.inr (.inr 0)]) (r := [.inr (.inr 0)]) (v := none) (h1 := h1) (by decide +kernel) rfl rfl rfl rfl rfl hr hn k
theorem law_run {xs : Int → Int} {L : Int} {r : Int × MH} (hF : FL_law xs L 0 334 FU 0 hB1 = some r) : RN xs L iL_law 51 0 (lvE 0 [.inr (.inr (-2))]) [] h_0 (RIo r) := by
  refine RN.blk (ops := [(0, .new 7), (3, .dup)]) (pc' := 4) (lv' := [(0, .inr (.inr (-2)))]) (st' := [.inr (.inr 0), .inr (.inr 0)]) (h' := hA0) (cs := []) (by decide +kernel) rfl trivial ?_
  refine law_c1 rcv_A new_A (law_mid ?_)
  rw [← hB0_d, show (hA1.1.1 : Int) = 334 by rw [hA1_c]; rfl]
  exact law_c2 rcv_B new_B (law_end hF)
/-- WHAT IS LEFT: the law's loop, as a function, answers 1 -/
def Owed : Prop := ∀ (xs : Int → Int) (L : Int), 0 ≤ L → L ≤ 3072 → (∀ j, -2147483648 ≤ xs j ∧ xs j ≤ 2147483647) → ∃ hf : MH, FL_law xs L 0 334 FU 0 hB1 = some (1, hf) ∧ m_ok hf = true ∧ hf.1.1 ≤ 600000 ∧ hf.1.2.1 ≤ 7302250
theorem start_owed (hO : Owed) {p : Program} {e : Env} {s : State} {m : MethodId} {below : List Frame} {meth : Method} {c : Code} (l : Launch) {b L : Nat} {xs : Nat → Int32} (hL : L ≤ 3072) (C0 : lw_At p s m meth c b L xs) : W p l e room_1 s m #[Value.ref b] below meth c s.heap [] 0 0 (lw_Z below #[Value.ref b] s) (entryFrame m ([Value.ref b] : List Value).toArray 4) := by
  obtain ⟨hf, h1, h2, h3, h4⟩ := hO (fun j => (xs j.toNat).toInt) L (by omega) (by omega) (fun j => ⟨Int32.le_toInt _, Int32.toInt_le _⟩)
  obtain ⟨N, hN⟩ := law_run h1 (m_ent 4 [.inr (.inr (-2))]) rfl Kn_ent
  exact start_of l hL C0 (n := N) (d := 51) (hf := hf) (by decide) (hN N (Nat.le_refl _)) h2 h3 h4
