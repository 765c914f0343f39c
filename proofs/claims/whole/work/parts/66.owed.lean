/-! WHAT IS LEFT, over the functions G -/
theorem law_endG {xs : Int → Int} {L : Int} {h1 : MH} {r : Int × MH} (hL : LR h1) (hF : GL_law xs L GX11_rule FU 0 h1 = some r) : RN xs L iL_law 51 15 [(1, .inr (.inr 0)), (0, .inr (.inr (-2)))] [.inr (.inr 334)] h1 (RIo r) := by
  refine RN.blk (ops := [(15, .astore_n 2), (16, .iconst 0), (17, .istore_n 3)]) (pc' := 18) (lv' := [(3, .inl 0), (2, .inr (.inr 334)), (1, .inr (.inr 0)), (0, .inr (.inr (-2)))]) (st' := []) (h' := h1) (cs := []) (by decide +kernel) rfl trivial ?_
  exact RN.sub (DL_law (h0 := h1) (fun h r hL hF => DX11_rule (d := 0) hL hF) FU 0 h1 hL KD.rf hF).1 (sub_cons rfl (sub_cons rfl (sub_cons rfl (sub_cons rfl sub_nil))))
theorem law_runG {xs : Int → Int} {L : Int} {r : Int × MH} (hF : GL_law xs L GX11_rule FU 0 hB1 = some r) : RN xs L iL_law 51 0 (lvE 0 [.inr (.inr (-2))]) [] h_0 (RIo r) := by
  refine RN.blk (ops := [(0, .new 7), (3, .dup)]) (pc' := 4) (lv' := [(0, .inr (.inr (-2)))]) (st' := [.inr (.inr 0), .inr (.inr 0)]) (h' := hA0) (cs := []) (by decide +kernel) rfl trivial ?_
  refine law_c1 rcv_A new_A (law_mid ?_)
  rw [← hB0_d, show (hA1.1.1 : Int) = 334 by rw [hA1_c]; rfl]
  exact law_c2 rcv_B new_B (law_endG LR_0 hF)
def OwedG : Prop := ∀ (xs : Int → Int) (L : Int), 0 ≤ L → L ≤ 3072 → (∀ j, -2147483648 ≤ xs j ∧ xs j ≤ 2147483647) → ∃ hf : MH, GL_law xs L GX11_rule FU 0 hB1 = some (1, hf) ∧ m_ok hf = true ∧ hf.1.1 ≤ 600000 ∧ hf.1.2.1 ≤ 7302250
theorem start_owedG (hO : OwedG) {p : Program} {e : Env} {s : State} {m : MethodId} {below : List Frame} {meth : Method} {c : Code} (l : Launch) {b L : Nat} {xs : Nat → Int32} (hL : L ≤ 3072) (C0 : lw_At p s m meth c b L xs) : W p l e room_1 s m #[Value.ref b] below meth c s.heap [] 0 0 (lw_Z below #[Value.ref b] s) (entryFrame m ([Value.ref b] : List Value).toArray 4) := by
  obtain ⟨hf, h1, h2, h3, h4⟩ := hO (fun j => (xs j.toNat).toInt) L (by omega) (by omega) (fun j => ⟨Int32.le_toInt _, Int32.toInt_le _⟩)
  obtain ⟨N, hN⟩ := law_runG h1 (m_ent 4 [.inr (.inr (-2))]) rfl Kn_ent
  exact start_of l hL C0 (n := N) (d := 51) (hf := hf) (by decide) (hN N (Nat.le_refl _)) h2 h3 h4
