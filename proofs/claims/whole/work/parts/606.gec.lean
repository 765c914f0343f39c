/-! METHODS AS FUNCTIONS, references resolved (by program): X7_agrees, X7_draw, X7_stepsWithPosts, X8_hasPrefix, X9_add, X10_lyingInAll, X10_shareOf, X11_feed, X11_end, X11_frame, X11_force, X11_hole, X11_entry, X11_waits, X11_count, X11_hasFrame, X11_remember, X11_ruleAt, X11_ruleInForce, X11_startFromNow, X11_turn -/
section Gc
variable {xs : Int → Int} {L : Int}
noncomputable def GX7_agrees_L8 (u1 : Int) (u2 : Int) (u3 : Int) (K0 : MH → Option (Int × MH)) (K1 : MH → Option (Int × MH)) : Nat → Int → MH → Option (Int × MH)
  | 0, _, _ => none
  | f + 1, v4, h =>
    (if u3 < v4 then
     K1 h
    else
     (if 0 < (m_rd h 314 1) then
      (bd (GX7_step u2 h) (fun x2 h1 =>
       (bd (GX2_notesHold u1 v4 v4 320 h1) (fun x4 h3 =>
        (if x4 = 0 then
         K0 h3
        else
         GX7_agrees_L8 u1 u2 u3 K0 K1 f (m_w32 (v4 + 1)) h3)))))
     else
      K1 h))
theorem DX7_agrees_L8 {d : Nat} {u1 : Int} {u2 : Int} {u3 : Int} {K0 : MH → Option (Int × MH)} {K1 : MH → Option (Int × MH)} {r : Int × MH} {h0 hB : MH} (hB0 : KD h0 hB) (k0_u1 : TO hB u1 2) (hK0 : ∀ (h : MH), LR h → KD hB h → K0 h = some r → RK xs L iX7_agrees (d + 5) 48 [] [] h (RIo r) h0 r.2) (hK1 : ∀ (h : MH), LR h → KD hB h → K1 h = some r → RK xs L iX7_agrees (d + 5) 56 [(0, .inr (.inr 310)), (1, .inr (.inr u1))] [] h (RIo r) h0 r.2) : ∀ (f : Nat) (v4 : Int) (h : MH), LR h → KD hB h → GX7_agrees_L8 u1 u2 u3 K0 K1 f v4 h = some r → RK xs L iX7_agrees (d + 5) 8 [(0, .inr (.inr 310)), (1, .inr (.inr u1)), (2, .inr (.inr u2)), (3, .inl u3), (4, .inl v4)] [] h (RIo r) h0 r.2 := by
  intro f
  induction f with
  | zero =>
    intro v4 h hL hJ hF
    cases hF
  | succ f ih =>
    intro v4 h hL hJ hF
    unfold GX7_agrees_L8 at hF
    have hK := hB0.tr hJ
    have k_u1 := hJ.to k0_u1
    refine RK.of (RN.blk (ops := [(8, .iload 4), (10, .iload_n 3)]) (pc' := 11) (lv' := [(0, .inr (.inr 310)), (1, .inr (.inr u1)), (2, .inr (.inr u2)), (3, .inl u3), (4, .inl v4)]) (st' := [.inl u3, .inl v4]) (h' := h) (cs := []) (by decide +kernel) rfl trivial) ?_
    rcases it_of hF with ⟨hb, hF⟩ | ⟨hb, hF⟩
    · refine RK.of (RN.ict (cd := .gt) (off := 45) (tgt := 56) (by decide +kernel) (mif_gt hb)) ?_
      exact RK.sub (hK1 _ hL hJ hF) (sub_cons rfl (sub_cons rfl sub_nil))
    · refine RK.of (RN.icf (cd := .gt) (off := 45) (tgt := 56) (by decide +kernel) (mif_gtn hb)) ?_
      refine RK.of (RN.blk (ops := [(14, .aload_n 0)]) (pc' := 15) (lv' := [(0, .inr (.inr 310)), (1, .inr (.inr u1)), (2, .inr (.inr u2)), (3, .inl u3), (4, .inl v4)]) (st' := [.inr (.inr 310)]) (h' := h) (cs := []) (by decide +kernel) rfl trivial) ?_
      refine RK.of (RN.gr (i := 21) (ci := 7) (k := 1) (fn := true) (v := 314) (by decide +kernel) rfl (TO.gk (o_310 hL)) (hL.fo (v := 314) 1 10 (o_310 hL) rfl (by decide) rfl).1) ?_
      refine RK.of (RN.blk (ops := [(18, .getfield 89)]) (pc' := 21) (lv' := [(0, .inr (.inr 310)), (1, .inr (.inr u1)), (2, .inr (.inr u2)), (3, .inl u3), (4, .inl v4)]) (st' := [.inl (m_rd h 314 1)]) (h' := h) (cs := [GK h 314 10]) (by decide +kernel) rfl ⟨(o_314 hL).gk, trivial⟩) ?_
      rcases it_of hF with ⟨hb, hF⟩ | ⟨hb, hF⟩
      · refine RK.of (RN.iff (cd := .le) (off := 35) (tgt := 56) (by decide +kernel) (mif_len hb)) ?_
        refine RK.of (RN.blk (ops := [(24, .aload_n 0), (25, .aload_n 2)]) (pc' := 26) (lv' := [(0, .inr (.inr 310)), (1, .inr (.inr u1)), (2, .inr (.inr u2)), (3, .inl u3), (4, .inl v4)]) (st' := [.inr (.inr u2), .inr (.inr 310)]) (h' := h) (cs := []) (by decide +kernel) rfl trivial) ?_
        obtain ⟨x2, h1, hG, hF⟩ := bd_of hF
        have hq := rcv_ok (as := [.inr (.inr u2)]) (TO.gk (o_310 hL))
        obtain ⟨hN, hL, hQ⟩ := DX7_step (d := d) hL  hG
        refine RK.of (RN.cv (i := 125) (k := 68) (q2 := iX7_step) (as := [.inr (.inr 310), .inr (.inr u2)]) (r := []) (v := some (.inl x2)) (h1 := h1) (by decide +kernel) rfl rfl rfl rfl rfl hq hN) ?_
        have k_u1 := hQ.to k_u1
        have hK := hK.tr hQ
        have hJ := hJ.tr hQ
        refine RK.of (RN.blk (ops := [(29, .pop), (30, .aload_n 1), (31, .iload 4), (33, .iload 4), (35, .aload_n 0)]) (pc' := 36) (lv' := [(0, .inr (.inr 310)), (1, .inr (.inr u1)), (2, .inr (.inr u2)), (3, .inl u3), (4, .inl v4)]) (st' := [.inr (.inr 310), .inl v4, .inl v4, .inr (.inr u1)]) (h' := h1) (cs := []) (by decide +kernel) rfl trivial) ?_
        refine RK.of (RN.gr (i := 21) (ci := 7) (k := 1) (fn := true) (v := 314) (by decide +kernel) rfl (TO.gk (o_310 hL)) (hL.fo (v := 314) 1 10 (o_310 hL) rfl (by decide) rfl).1) ?_
        refine RK.of (RN.gr (i := 79) (ci := 10) (k := 3) (fn := true) (v := 320) (by decide +kernel) rfl (TO.gk (o_314 hL)) (hL.fa (v := 320) 3 1 6 (o_314 hL) rfl (by decide) rfl (by decide)).1) ?_
        obtain ⟨x4, h3, hG, hF⟩ := bd_of hF
        have hq := rcv_ok (as := [.inl v4, .inl v4, .inr (.inr 320)]) (TO.gk k_u1)
        obtain ⟨hN, hL, hQ⟩ := DX2_notesHold (d := d + 4) hL k_u1 hG
        refine RK.of (RN.cv (i := 133) (k := 34) (q2 := iX2_notesHold) (as := [.inr (.inr u1), .inl v4, .inl v4, .inr (.inr 320)]) (r := []) (v := some (.inl x4)) (h1 := h3) (by decide +kernel) rfl rfl rfl rfl rfl hq hN) ?_
        have k_u1 := hQ.to k_u1
        have hK := hK.tr hQ
        have hJ := hJ.tr hQ
        rcases it_of hF with ⟨hb, hF⟩ | ⟨hb, hF⟩
        · refine RK.of (RN.iff (cd := .ne) (off := 5) (tgt := 50) (by decide +kernel) (mif_nen hb)) ?_
          exact RK.sub (hK0 _ hL hJ hF) sub_nil
        · refine RK.of (RN.ift (cd := .ne) (off := 5) (tgt := 50) (by decide +kernel) (mif_ne hb)) ?_
          refine RK.of (RN.blk (ops := [(50, .iinc 4 1)]) (pc' := 53) (lv' := [(4, .inl (m_w32 (v4 + 1))), (0, .inr (.inr 310)), (1, .inr (.inr u1)), (2, .inr (.inr u2)), (3, .inl u3)]) (st' := []) (h' := h3) (cs := []) (by decide +kernel) rfl trivial) ?_
          refine RK.of (RN.goto (off := -45) (tgt := 8) (by decide +kernel)) ?_
          exact RK.sub (ih _ _ hL hJ hF) (sub_cons rfl (sub_cons rfl (sub_cons rfl (sub_cons rfl (sub_cons rfl sub_nil)))))
      · refine RK.of (RN.ift (cd := .le) (off := 35) (tgt := 56) (by decide +kernel) (mif_le hb)) ?_
        exact RK.sub (hK1 _ hL hJ hF) (sub_cons rfl (sub_cons rfl sub_nil))
noncomputable def GX7_agrees (a1 : Int) (a2 : Int) (h : MH) : Option (Int × MH) :=
  (bd (GX2_lastNotedTurn a1 h) (fun x2 h1 =>
   GX7_agrees_L8 a1 a2 x2 (fun h3 =>
    some (0, h3)) (fun h4 =>
    (bd (GX2_notesHold a1 (m_rd h4 314 6) 60 320 h4) (fun x6 h5 =>
     gd [GT x6] (some (x6, h5))))) FU 0 h1))
theorem DX7_agrees {d : Nat} {a1 : Int} {a2 : Int} {h : MH} {r : Int × MH} (hL : LR h) (k0_a1 : TO h a1 2) (hF : GX7_agrees a1 a2 h = some r) : RN xs L iX7_agrees (d + 5) 0 (lvE 0 [.inr (.inr 310), .inr (.inr a1), .inr (.inr a2)]) [] h (RIo r) ∧ LR r.2 ∧ KD h r.2 := by
  unfold GX7_agrees at hF
  have hK : KD h h := KD.rf
  have k_a1 := k0_a1
  show RK xs L iX7_agrees (d + 5) 0 (lvE 0 [.inr (.inr 310), .inr (.inr a1), .inr (.inr a2)]) [] h (RIo r) h r.2
  refine RK.of (RN.blk (ops := [(0, .aload_n 1)]) (pc' := 1) (lv' := [(0, .inr (.inr 310)), (1, .inr (.inr a1)), (2, .inr (.inr a2))]) (st' := [.inr (.inr a1)]) (h' := h) (cs := []) (by decide +kernel) rfl trivial) ?_
  obtain ⟨x2, h1, hG, hF⟩ := bd_of hF
  have hq := rcv_ok (as := []) (TO.gk k_a1)
  obtain ⟨hN, hL, hQ⟩ := DX2_lastNotedTurn (d := d + 3) hL k_a1 hG
  refine RK.of (RN.cv (i := 128) (k := 33) (q2 := iX2_lastNotedTurn) (as := [.inr (.inr a1)]) (r := []) (v := some (.inl x2)) (h1 := h1) (by decide +kernel) rfl rfl rfl rfl rfl hq hN) ?_
  have k_a1 := hQ.to k_a1
  have hK := hK.tr hQ
  refine RK.of (RN.blk (ops := [(4, .istore_n 3), (5, .iconst 0), (6, .istore 4)]) (pc' := 8) (lv' := [(4, .inl 0), (3, .inl x2), (0, .inr (.inr 310)), (1, .inr (.inr a1)), (2, .inr (.inr a2))]) (st' := []) (h' := h1) (cs := []) (by decide +kernel) rfl trivial) ?_
  refine RK.sub (DX7_agrees_L8 hK k_a1 ?_ ?_ _ _ _ hL KD.rf hF) (sub_cons rfl (sub_cons rfl (sub_cons rfl (sub_cons rfl (sub_cons rfl sub_nil)))))
  · intro h3 hL hq hF
    have k_a1 := hq.to k_a1
    have hK := hK.tr hq
    refine RK.of (RN.blk (ops := [(48, .iconst 0)]) (pc' := 49) (lv' := []) (st' := [.inl 0]) (h' := h3) (cs := []) (by decide +kernel) rfl trivial) ?_
    exact RK.zR (by decide +kernel) rfl (Or.inl rfl) hL hK hF
  · intro h4 hL hq hF
    have k_a1 := hq.to k_a1
    have hK := hK.tr hq
    refine RK.of (RN.blk (ops := [(56, .aload_n 1), (57, .aload_n 0)]) (pc' := 58) (lv' := [(0, .inr (.inr 310)), (1, .inr (.inr a1))]) (st' := [.inr (.inr 310), .inr (.inr a1)]) (h' := h4) (cs := []) (by decide +kernel) rfl trivial) ?_
    refine RK.of (RN.gr (i := 21) (ci := 7) (k := 1) (fn := true) (v := 314) (by decide +kernel) rfl (TO.gk (o_310 hL)) (hL.fo (v := 314) 1 10 (o_310 hL) rfl (by decide) rfl).1) ?_
    refine RK.of (RN.blk (ops := [(61, .getfield 62), (64, .bipush 60), (66, .aload_n 0)]) (pc' := 67) (lv' := [(0, .inr (.inr 310)), (1, .inr (.inr a1))]) (st' := [.inr (.inr 310), .inl 60, .inl (m_rd h4 314 6), .inr (.inr a1)]) (h' := h4) (cs := [GK h4 314 10]) (by decide +kernel) rfl ⟨(o_314 hL).gk, trivial⟩) ?_
    refine RK.of (RN.gr (i := 21) (ci := 7) (k := 1) (fn := true) (v := 314) (by decide +kernel) rfl (TO.gk (o_310 hL)) (hL.fo (v := 314) 1 10 (o_310 hL) rfl (by decide) rfl).1) ?_
    refine RK.of (RN.gr (i := 79) (ci := 10) (k := 3) (fn := true) (v := 320) (by decide +kernel) rfl (TO.gk (o_314 hL)) (hL.fa (v := 320) 3 1 6 (o_314 hL) rfl (by decide) rfl (by decide)).1) ?_
    obtain ⟨x6, h5, hG, hF⟩ := bd_of hF
    have hq := rcv_ok (as := [.inl (m_rd h4 314 6), .inl 60, .inr (.inr 320)]) (TO.gk k_a1)
    obtain ⟨hN, hL, hQ⟩ := DX2_notesHold (d := d + 4) hL k_a1 hG
    refine RK.of (RN.cv (i := 133) (k := 34) (q2 := iX2_notesHold) (as := [.inr (.inr a1), .inl (m_rd h4 314 6), .inl 60, .inr (.inr 320)]) (r := []) (v := some (.inl x6)) (h1 := h5) (by decide +kernel) rfl rfl rfl rfl rfl hq hN) ?_
    have k_a1 := hQ.to k_a1
    have hK := hK.tr hQ
    obtain ⟨hc, hF⟩ := gd_of hF
    exact RK.zR (by decide +kernel) rfl hc.1 hL hK hF
noncomputable def GX7_draw (h : MH) : Option (Int × MH) :=
  hl (m_wr h 310 2 (m_w32 (Int.tmod (m_w64 ((m_w64 ((m_rd h 310 2) * 1103515245)) + 12345)) 2147483648))) (fun h1 =>
   some ((m_w32 (Int.tdiv (m_rd h1 310 2) 65536)), h1))
theorem DX7_draw {d : Nat} {h : MH} {r : Int × MH} (hL : LR h) (hF : GX7_draw h = some r) : RN xs L iX7_draw (d) 0 (lvE 0 [.inr (.inr 310)]) [] h (RIo r) ∧ LR r.2 ∧ KD h r.2 := by
  unfold GX7_draw at hF
  have hK : KD h h := KD.rf
  show RK xs L iX7_draw (d) 0 (lvE 0 [.inr (.inr 310)]) [] h (RIo r) h r.2
  refine RK.of (RN.blk (ops := [(0, .aload_n 0), (1, .aload_n 0), (2, .getfield 145), (5, .i2l), (6, .ldc2_w 148), (9, .lmul), (10, .ldc2_w 150), (13, .ladd), (14, .ldc2_w 152), (17, .lrem), (18, .l2i), (19, .putfield 145)]) (pc' := 22) (lv' := [(0, .inr (.inr 310))]) (st' := []) (h' := (m_wr h 310 2 (m_w32 (Int.tmod (m_w64 ((m_w64 ((m_rd h 310 2) * 1103515245)) + 12345)) 2147483648)))) (cs := [GK h 310 7, (2147483648 : Int) ≠ 0, GK h 310 7]) (by decide +kernel) rfl ⟨(o_310 hL).gk, (by decide), (o_310 hL).gk, trivial⟩) ?_
  have hL : LR (m_wr h 310 2 (m_w32 (Int.tmod (m_w64 ((m_w64 ((m_rd h 310 2) * 1103515245)) + 12345)) 2147483648))) := LR.wf (k := 2) hL (o_310 hL) rfl
  have hK := hK.tr (KD.wr : KD h (m_wr h 310 2 (m_w32 (Int.tmod (m_w64 ((m_w64 ((m_rd h 310 2) * 1103515245)) + 12345)) 2147483648))))
  obtain ⟨h1, he, hF⟩ := hl_of hF
  refine RK.of (RN.hl he) ?_
  rw [← he] at hL hK
  refine RK.of (RN.blk (ops := [(22, .aload_n 0), (23, .getfield 145), (26, .ldc 154), (28, .idiv)]) (pc' := 29) (lv' := [(0, .inr (.inr 310))]) (st' := [.inl (m_w32 (Int.tdiv (m_rd h1 310 2) 65536))]) (h' := h1) (cs := [GK h1 310 7, (65536 : Int) ≠ 0]) (by decide +kernel) rfl ⟨(o_310 hL).gk, (by decide), trivial⟩) ?_
  exact RK.iR (by decide +kernel) rfl hL hK hF
noncomputable def GX7_stepsWithPosts_L3 (u1 : Int) (u2 : Int) (u3 : Int) (K0 : MH → Option (MH)) : Nat → Int → MH → Option (MH)
  | 0, _, _ => none
  | f + 1, v4, h =>
    (if v4 < u2 then
     (bd (GX7_draw h) (fun x2 h1 =>
      jn (fun (h4 : MH) =>
       (bd (GX7_step u1 h4) (fun x6 h5 =>
        GX7_stepsWithPosts_L3 u1 u2 u3 K0 f (m_w32 (v4 + 1)) h5))) (fun j3 =>
       (if (Int.tmod x2 100) < u3 then
        jn (fun (s8 : Int) (h9 : MH) =>
         (bv (GX10_queue 314 s8 h9) (fun h10 =>
          j3 h10))) (fun j7 =>
         (if 0 < (m_rd h1 311 3) then
          (bd (GX7_draw h1) (fun x12 h11 =>
           gd [((m_rd h11 311 3) : Int) ≠ 0] (
            j7 (Int.tmod x12 (m_rd h11 311 3)) h11)))
         else
          j7 0 h1))
       else
        j3 h1))))
    else
     K0 h)
theorem DX7_stepsWithPosts_L3 {d : Nat} {u1 : Int} {u2 : Int} {u3 : Int} {K0 : MH → Option (MH)} {r : MH} {h0 hB : MH} (hB0 : KD h0 hB) (hK0 : ∀ (h : MH), LR h → KD hB h → K0 h = some r → RK xs L iX7_stepsWithPosts (d + 5) 65 [] [] h (RVo r) h0 r) : ∀ (f : Nat) (v4 : Int) (h : MH), LR h → KD hB h → GX7_stepsWithPosts_L3 u1 u2 u3 K0 f v4 h = some r → RK xs L iX7_stepsWithPosts (d + 5) 3 [(0, .inr (.inr 310)), (1, .inr (.inr u1)), (2, .inl u2), (3, .inl u3), (4, .inl v4)] [] h (RVo r) h0 r := by
  intro f
  induction f with
  | zero =>
    intro v4 h hL hJ hF
    cases hF
  | succ f ih =>
    intro v4 h hL hJ hF
    unfold GX7_stepsWithPosts_L3 at hF
    have hK := hB0.tr hJ
    refine RK.of (RN.blk (ops := [(3, .iload 4), (5, .iload_n 2)]) (pc' := 6) (lv' := [(0, .inr (.inr 310)), (1, .inr (.inr u1)), (2, .inl u2), (3, .inl u3), (4, .inl v4)]) (st' := [.inl u2, .inl v4]) (h' := h) (cs := []) (by decide +kernel) rfl trivial) ?_
    rcases it_of hF with ⟨hb, hF⟩ | ⟨hb, hF⟩
    · refine RK.of (RN.icf (cd := .ge) (off := 59) (tgt := 65) (by decide +kernel) (mif_gen hb)) ?_
      refine RK.of (RN.blk (ops := [(9, .aload_n 0)]) (pc' := 10) (lv' := [(0, .inr (.inr 310)), (1, .inr (.inr u1)), (2, .inl u2), (3, .inl u3), (4, .inl v4)]) (st' := [.inr (.inr 310)]) (h' := h) (cs := []) (by decide +kernel) rfl trivial) ?_
      obtain ⟨x2, h1, hG, hF⟩ := bd_of hF
      have hq := rcv_ok (as := []) (TO.gk (o_310 hL))
      obtain ⟨hN, hL, hQ⟩ := DX7_draw (d := d + 4) hL  hG
      refine RK.of (RN.cv (i := 137) (k := 77) (q2 := iX7_draw) (as := [.inr (.inr 310)]) (r := []) (v := some (.inl x2)) (h1 := h1) (by decide +kernel) rfl rfl rfl rfl rfl hq hN) ?_
      have hK := hK.tr hQ
      have hJ := hJ.tr hQ
      refine RK.of (RN.blk (ops := [(13, .bipush 100), (15, .irem), (16, .iload_n 3)]) (pc' := 17) (lv' := [(0, .inr (.inr 310)), (1, .inr (.inr u1)), (2, .inl u2), (3, .inl u3), (4, .inl v4)]) (st' := [.inl u3, .inl (Int.tmod x2 100)]) (h' := h1) (cs := [(100 : Int) ≠ 0]) (by decide +kernel) rfl ⟨(by decide), trivial⟩) ?_
      refine jn_use (fun j3 => ∀ (h4 : MH), LR h4 → KD hB h4 → j3 h4 = some r → RK xs L iX7_stepsWithPosts (d + 5) 53 [(0, .inr (.inr 310)), (1, .inr (.inr u1)), (2, .inl u2), (3, .inl u3), (4, .inl v4)] [] h4 (RVo r) h0 r) ?_ ?_ hF
      · intro h4 hL hJ hF
        have hK := hB0.tr hJ
        refine RK.of (RN.blk (ops := [(53, .aload_n 0), (54, .aload_n 1)]) (pc' := 55) (lv' := [(0, .inr (.inr 310)), (1, .inr (.inr u1)), (2, .inl u2), (3, .inl u3), (4, .inl v4)]) (st' := [.inr (.inr u1), .inr (.inr 310)]) (h' := h4) (cs := []) (by decide +kernel) rfl trivial) ?_
        obtain ⟨x6, h5, hG, hF⟩ := bd_of hF
        have hq := rcv_ok (as := [.inr (.inr u1)]) (TO.gk (o_310 hL))
        obtain ⟨hN, hL, hQ⟩ := DX7_step (d := d) hL  hG
        refine RK.of (RN.cv (i := 125) (k := 68) (q2 := iX7_step) (as := [.inr (.inr 310), .inr (.inr u1)]) (r := []) (v := some (.inl x6)) (h1 := h5) (by decide +kernel) rfl rfl rfl rfl rfl hq hN) ?_
        have hK := hK.tr hQ
        have hJ := hJ.tr hQ
        refine RK.of (RN.blk (ops := [(58, .pop), (59, .iinc 4 1)]) (pc' := 62) (lv' := [(4, .inl (m_w32 (v4 + 1))), (0, .inr (.inr 310)), (1, .inr (.inr u1)), (2, .inl u2), (3, .inl u3)]) (st' := []) (h' := h5) (cs := []) (by decide +kernel) rfl trivial) ?_
        refine RK.of (RN.goto (off := -59) (tgt := 3) (by decide +kernel)) ?_
        exact RK.sub (ih _ _ hL hJ hF) (sub_cons rfl (sub_cons rfl (sub_cons rfl (sub_cons rfl (sub_cons rfl sub_nil)))))
      · intro j3 Jj3 hF
        rcases it_of hF with ⟨hb, hF⟩ | ⟨hb, hF⟩
        · refine RK.of (RN.icf (cd := .ge) (off := 36) (tgt := 53) (by decide +kernel) (mif_gen hb)) ?_
          refine RK.of (RN.blk (ops := [(20, .aload_n 0)]) (pc' := 21) (lv' := [(0, .inr (.inr 310)), (1, .inr (.inr u1)), (2, .inl u2), (3, .inl u3), (4, .inl v4)]) (st' := [.inr (.inr 310)]) (h' := h1) (cs := []) (by decide +kernel) rfl trivial) ?_
          refine RK.of (RN.gr (i := 21) (ci := 7) (k := 1) (fn := true) (v := 314) (by decide +kernel) rfl (TO.gk (o_310 hL)) (hL.fo (v := 314) 1 10 (o_310 hL) rfl (by decide) rfl).1) ?_
          refine RK.of (RN.blk (ops := [(24, .aload_n 0)]) (pc' := 25) (lv' := [(0, .inr (.inr 310)), (1, .inr (.inr u1)), (2, .inl u2), (3, .inl u3), (4, .inl v4)]) (st' := [.inr (.inr 310), .inr (.inr 314)]) (h' := h1) (cs := []) (by decide +kernel) rfl trivial) ?_
          refine RK.of (RN.gr (i := 12) (ci := 7) (k := 0) (fn := true) (v := 311) (by decide +kernel) rfl (TO.gk (o_310 hL)) (hL.fo (v := 311) 0 8 (o_310 hL) rfl (by decide) rfl).1) ?_
          refine RK.of (RN.blk (ops := [(28, .getfield 139)]) (pc' := 31) (lv' := [(0, .inr (.inr 310)), (1, .inr (.inr u1)), (2, .inl u2), (3, .inl u3), (4, .inl v4)]) (st' := [.inl (m_rd h1 311 3), .inr (.inr 314)]) (h' := h1) (cs := [GK h1 311 8]) (by decide +kernel) rfl ⟨(o_311 hL).gk, trivial⟩) ?_
          refine jn_use (fun j7 => ∀ (s8 : Int) (h9 : MH), LR h9 → KD hB h9 → j7 s8 h9 = some r → RK xs L iX7_stepsWithPosts (d + 5) 50 [(0, .inr (.inr 310)), (1, .inr (.inr u1)), (2, .inl u2), (3, .inl u3), (4, .inl v4)] [.inl s8, .inr (.inr 314)] h9 (RVo r) h0 r) ?_ ?_ hF
          · intro s8 h9 hL hJ hF
            have hK := hB0.tr hJ
            obtain ⟨h10, hG, hF⟩ := bv_of hF
            have hq := rcv_ok (as := [.inl s8]) (TO.gk (o_314 hL))
            obtain ⟨hN, hL, hQ⟩ := DX10_queue (d := d + 4) hL (o_314 hL) hG
            refine RK.of (RN.cv (i := 142) (k := 102) (q2 := iX10_queue) (as := [.inr (.inr 314), .inl s8]) (r := []) (v := none) (h1 := h10) (by decide +kernel) rfl rfl rfl rfl rfl hq hN) ?_
            have hK := hK.tr hQ
            have hJ := hJ.tr hQ
            exact RK.sub (Jj3 _ hL hJ hF) (sub_cons rfl (sub_cons rfl (sub_cons rfl (sub_cons rfl (sub_cons rfl sub_nil)))))
          · intro j7 Jj7 hF
            rcases it_of hF with ⟨hb, hF⟩ | ⟨hb, hF⟩
            · refine RK.of (RN.iff (cd := .le) (off := 18) (tgt := 49) (by decide +kernel) (mif_len hb)) ?_
              refine RK.of (RN.blk (ops := [(34, .aload_n 0)]) (pc' := 35) (lv' := [(0, .inr (.inr 310)), (1, .inr (.inr u1)), (2, .inl u2), (3, .inl u3), (4, .inl v4)]) (st' := [.inr (.inr 310), .inr (.inr 314)]) (h' := h1) (cs := []) (by decide +kernel) rfl trivial) ?_
              obtain ⟨x12, h11, hG, hF⟩ := bd_of hF
              have hq := rcv_ok (as := []) (TO.gk (o_310 hL))
              obtain ⟨hN, hL, hQ⟩ := DX7_draw (d := d + 4) hL  hG
              refine RK.of (RN.cv (i := 137) (k := 77) (q2 := iX7_draw) (as := [.inr (.inr 310)]) (r := [.inr (.inr 314)]) (v := some (.inl x12)) (h1 := h11) (by decide +kernel) rfl rfl rfl rfl rfl hq hN) ?_
              have hK := hK.tr hQ
              have hJ := hJ.tr hQ
              refine RK.of (RN.blk (ops := [(38, .aload_n 0)]) (pc' := 39) (lv' := [(0, .inr (.inr 310)), (1, .inr (.inr u1)), (2, .inl u2), (3, .inl u3), (4, .inl v4)]) (st' := [.inr (.inr 310), .inl x12, .inr (.inr 314)]) (h' := h11) (cs := []) (by decide +kernel) rfl trivial) ?_
              refine RK.of (RN.gr (i := 12) (ci := 7) (k := 0) (fn := true) (v := 311) (by decide +kernel) rfl (TO.gk (o_310 hL)) (hL.fo (v := 311) 0 8 (o_310 hL) rfl (by decide) rfl).1) ?_
              obtain ⟨hc, hF⟩ := gd_of hF
              refine RK.of (RN.blk (ops := [(42, .getfield 139), (45, .irem)]) (pc' := 46) (lv' := [(0, .inr (.inr 310)), (1, .inr (.inr u1)), (2, .inl u2), (3, .inl u3), (4, .inl v4)]) (st' := [.inl (Int.tmod x12 (m_rd h11 311 3)), .inr (.inr 314)]) (h' := h11) (cs := [GK h11 311 8, ((m_rd h11 311 3) : Int) ≠ 0]) (by decide +kernel) rfl ⟨(o_311 hL).gk, hc.1, trivial⟩) ?_
              refine RK.of (RN.goto (off := 4) (tgt := 50) (by decide +kernel)) ?_
              exact RK.sub (Jj7 _ _ hL hJ hF) (sub_cons rfl (sub_cons rfl (sub_cons rfl (sub_cons rfl (sub_cons rfl sub_nil)))))
            · refine RK.of (RN.ift (cd := .le) (off := 18) (tgt := 49) (by decide +kernel) (mif_le hb)) ?_
              refine RK.of (RN.blk (ops := [(49, .iconst 0)]) (pc' := 50) (lv' := [(0, .inr (.inr 310)), (1, .inr (.inr u1)), (2, .inl u2), (3, .inl u3), (4, .inl v4)]) (st' := [.inl 0, .inr (.inr 314)]) (h' := h1) (cs := []) (by decide +kernel) rfl trivial) ?_
              exact RK.sub (Jj7 _ _ hL hJ hF) (sub_cons rfl (sub_cons rfl (sub_cons rfl (sub_cons rfl (sub_cons rfl sub_nil)))))
        · refine RK.of (RN.ict (cd := .ge) (off := 36) (tgt := 53) (by decide +kernel) (mif_ge hb)) ?_
          exact RK.sub (Jj3 _ hL hJ hF) (sub_cons rfl (sub_cons rfl (sub_cons rfl (sub_cons rfl (sub_cons rfl sub_nil)))))
    · refine RK.of (RN.ict (cd := .ge) (off := 59) (tgt := 65) (by decide +kernel) (mif_ge hb)) ?_
      exact RK.sub (hK0 _ hL hJ hF) sub_nil
noncomputable def GX7_stepsWithPosts (a1 : Int) (a2 : Int) (a3 : Int) (h : MH) : Option (MH) :=
  GX7_stepsWithPosts_L3 a1 a2 a3 (fun h1 =>
   some h1) FU 0 h
theorem DX7_stepsWithPosts {d : Nat} {a1 : Int} {a2 : Int} {a3 : Int} {h : MH} {r : MH} (hL : LR h) (hF : GX7_stepsWithPosts a1 a2 a3 h = some r) : RN xs L iX7_stepsWithPosts (d + 5) 0 (lvE 0 [.inr (.inr 310), .inr (.inr a1), .inl a2, .inl a3]) [] h (RVo r) ∧ LR r ∧ KD h r := by
  unfold GX7_stepsWithPosts at hF
  have hK : KD h h := KD.rf
  show RK xs L iX7_stepsWithPosts (d + 5) 0 (lvE 0 [.inr (.inr 310), .inr (.inr a1), .inl a2, .inl a3]) [] h (RVo r) h r
  refine RK.of (RN.blk (ops := [(0, .iconst 0), (1, .istore 4)]) (pc' := 3) (lv' := [(4, .inl 0), (0, .inr (.inr 310)), (1, .inr (.inr a1)), (2, .inl a2), (3, .inl a3)]) (st' := []) (h' := h) (cs := []) (by decide +kernel) rfl trivial) ?_
  refine RK.sub (DX7_stepsWithPosts_L3 hK ?_ _ _ _ hL KD.rf hF) (sub_cons rfl (sub_cons rfl (sub_cons rfl (sub_cons rfl (sub_cons rfl sub_nil)))))
  · intro h1 hL hq hF
    have hK := hK.tr hq
    exact RK.vR (by decide +kernel) rfl hL hK hF
noncomputable def GX8_hasPrefix (t : Int) (a1 : Int) (a2 : Int) (h : MH) : Option (Int × MH) :=
  (if a1 < 0 then
   some (0, h)
  else
   (if (m_rd h t 1) < a1 then
    some (0, h)
   else
    (if a2 < 0 then
     some (0, h)
    else
     (bd (GX8_prefixesOf t a1 h) (fun x2 h1 =>
      (if a2 < x2 then
       some (1, h1)
      else
       some (0, h1)))))))
theorem DX8_hasPrefix {d : Nat} {t : Int} {a1 : Int} {a2 : Int} {h : MH} {r : Int × MH} (hL : LR h) (k0_t : TO h t 8) (hF : GX8_hasPrefix t a1 a2 h = some r) : RN xs L iX8_hasPrefix (d + 1) 0 (lvE 0 [.inr (.inr t), .inl a1, .inl a2]) [] h (RIo r) ∧ LR r.2 ∧ KD h r.2 := by
  unfold GX8_hasPrefix at hF
  have hK : KD h h := KD.rf
  have k_t := k0_t
  show RK xs L iX8_hasPrefix (d + 1) 0 (lvE 0 [.inr (.inr t), .inl a1, .inl a2]) [] h (RIo r) h r.2
  refine RK.of (RN.blk (ops := [(0, .iload_n 1)]) (pc' := 1) (lv' := [(0, .inr (.inr t)), (1, .inl a1), (2, .inl a2)]) (st' := [.inl a1]) (h' := h) (cs := []) (by decide +kernel) rfl trivial) ?_
  rcases it_of hF with ⟨hb, hF⟩ | ⟨hb, hF⟩
  · refine RK.of (RN.ift (cd := .lt) (off := 28) (tgt := 29) (by decide +kernel) (mif_lt hb)) ?_
    refine RK.of (RN.blk (ops := [(29, .iconst 0)]) (pc' := 30) (lv' := [(0, .inr (.inr t)), (1, .inl a1), (2, .inl a2)]) (st' := [.inl 0]) (h' := h) (cs := []) (by decide +kernel) rfl trivial) ?_
    exact RK.zR (by decide +kernel) rfl (Or.inl rfl) hL hK hF
  · refine RK.of (RN.iff (cd := .lt) (off := 28) (tgt := 29) (by decide +kernel) (mif_ltn hb)) ?_
    refine RK.of (RN.blk (ops := [(4, .iload_n 1), (5, .aload_n 0), (6, .getfield 22)]) (pc' := 9) (lv' := [(0, .inr (.inr t)), (1, .inl a1), (2, .inl a2)]) (st' := [.inl (m_rd h t 1), .inl a1]) (h' := h) (cs := [GK h t 8]) (by decide +kernel) rfl ⟨k_t.gk, trivial⟩) ?_
    rcases it_of hF with ⟨hb, hF⟩ | ⟨hb, hF⟩
    · refine RK.of (RN.ict (cd := .gt) (off := 20) (tgt := 29) (by decide +kernel) (mif_gt hb)) ?_
      refine RK.of (RN.blk (ops := [(29, .iconst 0)]) (pc' := 30) (lv' := [(0, .inr (.inr t)), (1, .inl a1), (2, .inl a2)]) (st' := [.inl 0]) (h' := h) (cs := []) (by decide +kernel) rfl trivial) ?_
      exact RK.zR (by decide +kernel) rfl (Or.inl rfl) hL hK hF
    · refine RK.of (RN.icf (cd := .gt) (off := 20) (tgt := 29) (by decide +kernel) (mif_gtn hb)) ?_
      refine RK.of (RN.blk (ops := [(12, .iload_n 2)]) (pc' := 13) (lv' := [(0, .inr (.inr t)), (1, .inl a1), (2, .inl a2)]) (st' := [.inl a2]) (h' := h) (cs := []) (by decide +kernel) rfl trivial) ?_
      rcases it_of hF with ⟨hb, hF⟩ | ⟨hb, hF⟩
      · refine RK.of (RN.ift (cd := .lt) (off := 16) (tgt := 29) (by decide +kernel) (mif_lt hb)) ?_
        refine RK.of (RN.blk (ops := [(29, .iconst 0)]) (pc' := 30) (lv' := [(0, .inr (.inr t)), (1, .inl a1), (2, .inl a2)]) (st' := [.inl 0]) (h' := h) (cs := []) (by decide +kernel) rfl trivial) ?_
        exact RK.zR (by decide +kernel) rfl (Or.inl rfl) hL hK hF
      · refine RK.of (RN.iff (cd := .lt) (off := 16) (tgt := 29) (by decide +kernel) (mif_ltn hb)) ?_
        refine RK.of (RN.blk (ops := [(16, .iload_n 2), (17, .aload_n 0), (18, .iload_n 1)]) (pc' := 19) (lv' := [(0, .inr (.inr t)), (1, .inl a1), (2, .inl a2)]) (st' := [.inl a1, .inr (.inr t), .inl a2]) (h' := h) (cs := []) (by decide +kernel) rfl trivial) ?_
        obtain ⟨x2, h1, hG, hF⟩ := bd_of hF
        have hq := rcv_ok (as := [.inl a1]) (TO.gk k_t)
        obtain ⟨hN, hL, hQ⟩ := DX8_prefixesOf (d := d) hL k_t hG
        refine RK.of (RN.cv (i := 28) (k := 84) (q2 := iX8_prefixesOf) (as := [.inr (.inr t), .inl a1]) (r := [.inl a2]) (v := some (.inl x2)) (h1 := h1) (by decide +kernel) rfl rfl rfl rfl rfl hq hN) ?_
        have k_t := hQ.to k_t
        have hK := hK.tr hQ
        rcases it_of hF with ⟨hb, hF⟩ | ⟨hb, hF⟩
        · refine RK.of (RN.icf (cd := .ge) (off := 7) (tgt := 29) (by decide +kernel) (mif_gen hb)) ?_
          refine RK.of (RN.blk (ops := [(25, .iconst 1)]) (pc' := 26) (lv' := [(0, .inr (.inr t)), (1, .inl a1), (2, .inl a2)]) (st' := [.inl 1]) (h' := h1) (cs := []) (by decide +kernel) rfl trivial) ?_
          refine RK.of (RN.goto (off := 4) (tgt := 30) (by decide +kernel)) ?_
          exact RK.zR (by decide +kernel) rfl (Or.inr rfl) hL hK hF
        · refine RK.of (RN.ict (cd := .ge) (off := 7) (tgt := 29) (by decide +kernel) (mif_ge hb)) ?_
          refine RK.of (RN.blk (ops := [(29, .iconst 0)]) (pc' := 30) (lv' := [(0, .inr (.inr t)), (1, .inl a1), (2, .inl a2)]) (st' := [.inl 0]) (h' := h1) (cs := []) (by decide +kernel) rfl trivial) ?_
          exact RK.zR (by decide +kernel) rfl (Or.inl rfl) hL hK hF
noncomputable def GX9_add_L3 (u1 : Int) (K0 : MH → Option (MH)) : Nat → Int → MH → Option (MH)
  | 0, _, _ => none
  | f + 1, v2, h =>
    (if v2 < 0 then
     K0 h
    else
     (if (m_rd h 1 1) < 400 then
      gd [IB (m_rd h 1 1) 400] (
       hl (m_wr (m_wr h 2 (m_rd h 1 1) (m_band (m_ushr u1 v2) 255)) 1 1 (m_w32 ((m_rd (m_wr h 2 (m_rd h 1 1) (m_band (m_ushr u1 v2) 255)) 1 1) + 1))) (fun h1 =>
        GX9_add_L3 u1 K0 f (m_w32 (v2 + (-8))) h1))
     else
      K0 h))
theorem DX9_add_L3 {d : Nat} {u1 : Int} {K0 : MH → Option (MH)} {r : MH} {h0 hB : MH} (hB0 : KD h0 hB) (hK0 : ∀ (h : MH), LR h → KD hB h → K0 h = some r → RK xs L iX9_add (d) 49 [] [] h (RVo r) h0 r) : ∀ (f : Nat) (v2 : Int) (h : MH), LR h → KD hB h → GX9_add_L3 u1 K0 f v2 h = some r → RK xs L iX9_add (d) 3 [(0, .inr (.inr 1)), (1, .inl u1), (2, .inl v2)] [] h (RVo r) h0 r := by
  intro f
  induction f with
  | zero =>
    intro v2 h hL hJ hF
    cases hF
  | succ f ih =>
    intro v2 h hL hJ hF
    unfold GX9_add_L3 at hF
    have hK := hB0.tr hJ
    refine RK.of (RN.blk (ops := [(3, .iload_n 2)]) (pc' := 4) (lv' := [(0, .inr (.inr 1)), (1, .inl u1), (2, .inl v2)]) (st' := [.inl v2]) (h' := h) (cs := []) (by decide +kernel) rfl trivial) ?_
    rcases it_of hF with ⟨hb, hF⟩ | ⟨hb, hF⟩
    · refine RK.of (RN.ift (cd := .lt) (off := 45) (tgt := 49) (by decide +kernel) (mif_lt hb)) ?_
      exact RK.sub (hK0 _ hL hJ hF) sub_nil
    · refine RK.of (RN.iff (cd := .lt) (off := 45) (tgt := 49) (by decide +kernel) (mif_ltn hb)) ?_
      refine RK.of (RN.blk (ops := [(7, .aload_n 0), (8, .getfield 15), (11, .sipush 400)]) (pc' := 14) (lv' := [(0, .inr (.inr 1)), (1, .inl u1), (2, .inl v2)]) (st' := [.inl 400, .inl (m_rd h 1 1)]) (h' := h) (cs := [GK h 1 9]) (by decide +kernel) rfl ⟨(o_1 hL).gk, trivial⟩) ?_
      rcases it_of hF with ⟨hb, hF⟩ | ⟨hb, hF⟩
      · refine RK.of (RN.icf (cd := .ge) (off := 35) (tgt := 49) (by decide +kernel) (mif_gen hb)) ?_
        refine RK.of (RN.blk (ops := [(17, .aload_n 0)]) (pc' := 18) (lv' := [(0, .inr (.inr 1)), (1, .inl u1), (2, .inl v2)]) (st' := [.inr (.inr 1)]) (h' := h) (cs := []) (by decide +kernel) rfl trivial) ?_
        refine RK.of (RN.gr (i := 9) (ci := 9) (k := 0) (fn := true) (v := 2) (by decide +kernel) rfl (TO.gk (o_1 hL)) (hL.fa (v := 2) 0 1 400 (o_1 hL) rfl (by decide) rfl (by decide)).1) ?_
        obtain ⟨hc, hF⟩ := gd_of hF
        refine RK.of (RN.blk (ops := [(21, .aload_n 0), (22, .getfield 15), (25, .iload_n 1), (26, .iload_n 2), (27, .iushr), (28, .sipush 255), (31, .iand), (32, .iastore)]) (pc' := 33) (lv' := [(0, .inr (.inr 1)), (1, .inl u1), (2, .inl v2)]) (st' := []) (h' := (m_wr h 2 (m_rd h 1 1) (m_band (m_ushr u1 v2) 255))) (cs := [GK h 1 9, GI h 2 1 (m_rd h 1 1)]) (by decide +kernel) rfl ⟨(o_1 hL).gk, (a_2 hL).gi hc.1.1 hc.1.2, trivial⟩) ?_
        have hL : LR (m_wr h 2 (m_rd h 1 1) (m_band (m_ushr u1 v2) 255)) := hL.wa (TA.le5 (a_2 hL) (by decide))
        have hK := hK.tr (KD.wr : KD h (m_wr h 2 (m_rd h 1 1) (m_band (m_ushr u1 v2) 255)))
        have hJ := hJ.tr (KD.wr : KD h (m_wr h 2 (m_rd h 1 1) (m_band (m_ushr u1 v2) 255)))
        refine RK.of (RN.blk (ops := [(33, .aload_n 0), (34, .dup), (35, .getfield 15), (38, .iconst 1), (39, .iadd), (40, .putfield 15)]) (pc' := 43) (lv' := [(0, .inr (.inr 1)), (1, .inl u1), (2, .inl v2)]) (st' := []) (h' := (m_wr (m_wr h 2 (m_rd h 1 1) (m_band (m_ushr u1 v2) 255)) 1 1 (m_w32 ((m_rd (m_wr h 2 (m_rd h 1 1) (m_band (m_ushr u1 v2) 255)) 1 1) + 1)))) (cs := [GK (m_wr h 2 (m_rd h 1 1) (m_band (m_ushr u1 v2) 255)) 1 9, GK (m_wr h 2 (m_rd h 1 1) (m_band (m_ushr u1 v2) 255)) 1 9]) (by decide +kernel) rfl ⟨(o_1 hL).gk, (o_1 hL).gk, trivial⟩) ?_
        have hL : LR (m_wr (m_wr h 2 (m_rd h 1 1) (m_band (m_ushr u1 v2) 255)) 1 1 (m_w32 ((m_rd (m_wr h 2 (m_rd h 1 1) (m_band (m_ushr u1 v2) 255)) 1 1) + 1))) := LR.wf (k := 1) hL (o_1 hL) rfl
        have hK := hK.tr (KD.wr : KD (m_wr h 2 (m_rd h 1 1) (m_band (m_ushr u1 v2) 255)) (m_wr (m_wr h 2 (m_rd h 1 1) (m_band (m_ushr u1 v2) 255)) 1 1 (m_w32 ((m_rd (m_wr h 2 (m_rd h 1 1) (m_band (m_ushr u1 v2) 255)) 1 1) + 1))))
        have hJ := hJ.tr (KD.wr : KD (m_wr h 2 (m_rd h 1 1) (m_band (m_ushr u1 v2) 255)) (m_wr (m_wr h 2 (m_rd h 1 1) (m_band (m_ushr u1 v2) 255)) 1 1 (m_w32 ((m_rd (m_wr h 2 (m_rd h 1 1) (m_band (m_ushr u1 v2) 255)) 1 1) + 1))))
        obtain ⟨h1, he, hF⟩ := hl_of hF
        refine RK.of (RN.hl he) ?_
        rw [← he] at hL hK hJ
        refine RK.of (RN.blk (ops := [(43, .iinc 2 (-8))]) (pc' := 46) (lv' := [(2, .inl (m_w32 (v2 + (-8)))), (0, .inr (.inr 1)), (1, .inl u1)]) (st' := []) (h' := h1) (cs := []) (by decide +kernel) rfl trivial) ?_
        refine RK.of (RN.goto (off := -43) (tgt := 3) (by decide +kernel)) ?_
        exact RK.sub (ih _ _ hL hJ hF) (sub_cons rfl (sub_cons rfl (sub_cons rfl sub_nil)))
      · refine RK.of (RN.ict (cd := .ge) (off := 35) (tgt := 49) (by decide +kernel) (mif_ge hb)) ?_
        exact RK.sub (hK0 _ hL hJ hF) sub_nil
noncomputable def GX9_add (a1 : Int) (h : MH) : Option (MH) :=
  GX9_add_L3 a1 (fun h1 =>
   some h1) FU 24 h
theorem DX9_add {d : Nat} {a1 : Int} {h : MH} {r : MH} (hL : LR h) (hF : GX9_add a1 h = some r) : RN xs L iX9_add (d) 0 (lvE 0 [.inr (.inr 1), .inl a1]) [] h (RVo r) ∧ LR r ∧ KD h r := by
  unfold GX9_add at hF
  have hK : KD h h := KD.rf
  show RK xs L iX9_add (d) 0 (lvE 0 [.inr (.inr 1), .inl a1]) [] h (RVo r) h r
  refine RK.of (RN.blk (ops := [(0, .bipush 24), (2, .istore_n 2)]) (pc' := 3) (lv' := [(2, .inl 24), (0, .inr (.inr 1)), (1, .inl a1)]) (st' := []) (h' := h) (cs := []) (by decide +kernel) rfl trivial) ?_
  refine RK.sub (DX9_add_L3 hK ?_ _ _ _ hL KD.rf hF) (sub_cons rfl (sub_cons rfl (sub_cons rfl sub_nil)))
  · intro h1 hL hq hF
    have hK := hK.tr hq
    exact RK.vR (by decide +kernel) rfl hL hK hF
noncomputable def GX10_lyingInAll (t : Int) (h : MH) : Option (Int × MH) :=
  (bd (GX10_sumOf (t + 6) h) (fun x2 h1 =>
   some (x2, h1)))
theorem DX10_lyingInAll {d : Nat} {t : Int} {h : MH} {r : Int × MH} (hL : LR h) (k0_t : TO h t 10) (hF : GX10_lyingInAll t h = some r) : RN xs L iX10_lyingInAll (d + 1) 0 (lvE 0 [.inr (.inr t)]) [] h (RIo r) ∧ LR r.2 ∧ KD h r.2 := by
  unfold GX10_lyingInAll at hF
  have hK : KD h h := KD.rf
  have k_t := k0_t
  show RK xs L iX10_lyingInAll (d + 1) 0 (lvE 0 [.inr (.inr t)]) [] h (RIo r) h r.2
  refine RK.of (RN.blk (ops := [(0, .aload_n 0)]) (pc' := 1) (lv' := [(0, .inr (.inr t))]) (st' := [.inr (.inr t)]) (h' := h) (cs := []) (by decide +kernel) rfl trivial) ?_
  refine RK.of (RN.gr (i := 22) (ci := 10) (k := 3) (fn := true) (v := (t + 6)) (by decide +kernel) rfl (TO.gk k_t) (hL.fa (v := (t + 6)) 3 1 6 k_t rfl rfl rfl (by decide)).1) ?_
  obtain ⟨x2, h1, hG, hF⟩ := bd_of hF
  obtain ⟨hN, hL, hQ⟩ := DX10_sumOf (d := d) hL  hG
  refine RK.of (RN.cst (i := 57) (k := 108) (q2 := iX10_sumOf) (as := [.inr (.inr (t + 6))]) (r := []) (v := some (.inl x2)) (h1 := h1) (by decide +kernel) rfl rfl rfl rfl rfl hN) ?_
  have k_t := hQ.to k_t
  have hK := hK.tr hQ
  exact RK.iR (by decide +kernel) rfl hL hK hF
noncomputable def GX10_shareOf_L32 (u0 : Int) (u1 : Int) (u2 : Int) (u3 : Int) (u6 : Int) (K0 : Int → Int → MH → Option (Int × MH)) : Nat → Int → Int → Int → MH → Option (Int × MH)
  | 0, _, _, _, _ => none
  | f + 1, v4, v5, v7, h =>
    (if v7 < 6 then
     gd [IB v7 6, (u3 : Int) ≠ 0] (
      gd [IB v7 6, (u3 : Int) ≠ 0] (
       (if u6 < (Int.tmod (m_w32 (u1 * (m_rd h (u0 + 7) v7))) u3) then
        GX10_shareOf_L32 u0 u1 u2 u3 u6 K0 f (m_w32 (v4 - (m_w32 (Int.tdiv (m_w32 (u1 * (m_rd h (u0 + 7) v7))) u3)))) (m_w32 (v5 + 1)) (m_w32 (v7 + 1)) h
       else
        (if (Int.tmod (m_w32 (u1 * (m_rd h (u0 + 7) v7))) u3) = u6 then
         (if v7 < u2 then
          GX10_shareOf_L32 u0 u1 u2 u3 u6 K0 f (m_w32 (v4 - (m_w32 (Int.tdiv (m_w32 (u1 * (m_rd h (u0 + 7) v7))) u3)))) (m_w32 (v5 + 1)) (m_w32 (v7 + 1)) h
         else
          GX10_shareOf_L32 u0 u1 u2 u3 u6 K0 f (m_w32 (v4 - (m_w32 (Int.tdiv (m_w32 (u1 * (m_rd h (u0 + 7) v7))) u3)))) v5 (m_w32 (v7 + 1)) h)
        else
         GX10_shareOf_L32 u0 u1 u2 u3 u6 K0 f (m_w32 (v4 - (m_w32 (Int.tdiv (m_w32 (u1 * (m_rd h (u0 + 7) v7))) u3)))) v5 (m_w32 (v7 + 1)) h))))
    else
     K0 v4 v5 h)
theorem DX10_shareOf_L32 {d : Nat} {u0 : Int} {u1 : Int} {u2 : Int} {u3 : Int} {u6 : Int} {K0 : Int → Int → MH → Option (Int × MH)} {r : Int × MH} {h0 hB : MH} (hB0 : KD h0 hB) (k0_u0 : TO hB u0 10) (hK0 : ∀ (w4 : Int) (w5 : Int) (h : MH), LR h → KD hB h → K0 w4 w5 h = some r → RK xs L iX10_shareOf (d + 2) 97 [(0, .inr (.inr u0)), (1, .inl u1), (2, .inl u2), (3, .inl u3), (4, .inl w4), (5, .inl w5)] [] h (RIo r) h0 r.2) : ∀ (f : Nat) (v4 : Int) (v5 : Int) (v7 : Int) (h : MH), LR h → KD hB h → GX10_shareOf_L32 u0 u1 u2 u3 u6 K0 f v4 v5 v7 h = some r → RK xs L iX10_shareOf (d + 2) 32 [(0, .inr (.inr u0)), (1, .inl u1), (2, .inl u2), (3, .inl u3), (4, .inl v4), (5, .inl v5), (6, .inl u6), (7, .inl v7)] [] h (RIo r) h0 r.2 := by
  intro f
  induction f with
  | zero =>
    intro v4 v5 v7 h hL hJ hF
    cases hF
  | succ f ih =>
    intro v4 v5 v7 h hL hJ hF
    unfold GX10_shareOf_L32 at hF
    have hK := hB0.tr hJ
    have k_u0 := hJ.to k0_u0
    refine RK.of (RN.blk (ops := [(32, .iload 7), (34, .bipush 6)]) (pc' := 36) (lv' := [(0, .inr (.inr u0)), (1, .inl u1), (2, .inl u2), (3, .inl u3), (4, .inl v4), (5, .inl v5), (6, .inl u6), (7, .inl v7)]) (st' := [.inl 6, .inl v7]) (h' := h) (cs := []) (by decide +kernel) rfl trivial) ?_
    rcases it_of hF with ⟨hb, hF⟩ | ⟨hb, hF⟩
    · refine RK.of (RN.icf (cd := .ge) (off := 61) (tgt := 97) (by decide +kernel) (mif_gen hb)) ?_
      refine RK.of (RN.blk (ops := [(39, .iload 4), (41, .iload_n 1), (42, .aload_n 0)]) (pc' := 43) (lv' := [(0, .inr (.inr u0)), (1, .inl u1), (2, .inl u2), (3, .inl u3), (4, .inl v4), (5, .inl v5), (6, .inl u6), (7, .inl v7)]) (st' := [.inr (.inr u0), .inl u1, .inl v4]) (h' := h) (cs := []) (by decide +kernel) rfl trivial) ?_
      refine RK.of (RN.gr (i := 25) (ci := 10) (k := 4) (fn := true) (v := (u0 + 7)) (by decide +kernel) rfl (TO.gk k_u0) (hL.fa (v := (u0 + 7)) 4 1 6 k_u0 rfl rfl rfl (by decide)).1) ?_
      obtain ⟨hc, hF⟩ := gd_of hF
      refine RK.of (RN.blk (ops := [(46, .iload 7), (48, .iaload), (49, .imul), (50, .iload_n 3), (51, .idiv), (52, .isub), (53, .istore 4), (55, .iload_n 1), (56, .aload_n 0)]) (pc' := 57) (lv' := [(4, .inl (m_w32 (v4 - (m_w32 (Int.tdiv (m_w32 (u1 * (m_rd h (u0 + 7) v7))) u3))))), (0, .inr (.inr u0)), (1, .inl u1), (2, .inl u2), (3, .inl u3), (5, .inl v5), (6, .inl u6), (7, .inl v7)]) (st' := [.inr (.inr u0), .inl u1]) (h' := h) (cs := [GI h (u0 + 7) 1 v7, (u3 : Int) ≠ 0]) (by decide +kernel) rfl ⟨(hL.fa 4 1 6 k_u0 rfl rfl rfl (by decide)).2.gi hc.1.1 hc.1.2, hc.2.1, trivial⟩) ?_
      refine RK.of (RN.gr (i := 25) (ci := 10) (k := 4) (fn := true) (v := (u0 + 7)) (by decide +kernel) rfl (TO.gk k_u0) (hL.fa (v := (u0 + 7)) 4 1 6 k_u0 rfl rfl rfl (by decide)).1) ?_
      obtain ⟨hc, hF⟩ := gd_of hF
      refine RK.of (RN.blk (ops := [(60, .iload 7), (62, .iaload), (63, .imul), (64, .iload_n 3), (65, .irem), (66, .istore 8), (68, .iload 8), (70, .iload 6)]) (pc' := 72) (lv' := [(8, .inl (Int.tmod (m_w32 (u1 * (m_rd h (u0 + 7) v7))) u3)), (4, .inl (m_w32 (v4 - (m_w32 (Int.tdiv (m_w32 (u1 * (m_rd h (u0 + 7) v7))) u3))))), (0, .inr (.inr u0)), (1, .inl u1), (2, .inl u2), (3, .inl u3), (5, .inl v5), (6, .inl u6), (7, .inl v7)]) (st' := [.inl u6, .inl (Int.tmod (m_w32 (u1 * (m_rd h (u0 + 7) v7))) u3)]) (h' := h) (cs := [GI h (u0 + 7) 1 v7, (u3 : Int) ≠ 0]) (by decide +kernel) rfl ⟨(hL.fa 4 1 6 k_u0 rfl rfl rfl (by decide)).2.gi hc.1.1 hc.1.2, hc.2.1, trivial⟩) ?_
      rcases it_of hF with ⟨hb, hF⟩ | ⟨hb, hF⟩
      · refine RK.of (RN.ict (cd := .gt) (off := 16) (tgt := 88) (by decide +kernel) (mif_gt hb)) ?_
        refine RK.of (RN.blk (ops := [(88, .iinc 5 1)]) (pc' := 91) (lv' := [(5, .inl (m_w32 (v5 + 1))), (8, .inl (Int.tmod (m_w32 (u1 * (m_rd h (u0 + 7) v7))) u3)), (4, .inl (m_w32 (v4 - (m_w32 (Int.tdiv (m_w32 (u1 * (m_rd h (u0 + 7) v7))) u3))))), (0, .inr (.inr u0)), (1, .inl u1), (2, .inl u2), (3, .inl u3), (6, .inl u6), (7, .inl v7)]) (st' := []) (h' := h) (cs := []) (by decide +kernel) rfl trivial) ?_
        refine RK.of (RN.blk (ops := [(91, .iinc 7 1)]) (pc' := 94) (lv' := [(7, .inl (m_w32 (v7 + 1))), (5, .inl (m_w32 (v5 + 1))), (8, .inl (Int.tmod (m_w32 (u1 * (m_rd h (u0 + 7) v7))) u3)), (4, .inl (m_w32 (v4 - (m_w32 (Int.tdiv (m_w32 (u1 * (m_rd h (u0 + 7) v7))) u3))))), (0, .inr (.inr u0)), (1, .inl u1), (2, .inl u2), (3, .inl u3), (6, .inl u6)]) (st' := []) (h' := h) (cs := []) (by decide +kernel) rfl trivial) ?_
        refine RK.of (RN.goto (off := -62) (tgt := 32) (by decide +kernel)) ?_
        exact RK.sub (ih _ _ _ _ hL hJ hF) (sub_cons rfl (sub_cons rfl (sub_cons rfl (sub_cons rfl (sub_cons rfl (sub_cons rfl (sub_cons rfl (sub_cons rfl sub_nil))))))))
      · refine RK.of (RN.icf (cd := .gt) (off := 16) (tgt := 88) (by decide +kernel) (mif_gtn hb)) ?_
        refine RK.of (RN.blk (ops := [(75, .iload 8), (77, .iload 6)]) (pc' := 79) (lv' := [(8, .inl (Int.tmod (m_w32 (u1 * (m_rd h (u0 + 7) v7))) u3)), (4, .inl (m_w32 (v4 - (m_w32 (Int.tdiv (m_w32 (u1 * (m_rd h (u0 + 7) v7))) u3))))), (0, .inr (.inr u0)), (1, .inl u1), (2, .inl u2), (3, .inl u3), (5, .inl v5), (6, .inl u6), (7, .inl v7)]) (st' := [.inl u6, .inl (Int.tmod (m_w32 (u1 * (m_rd h (u0 + 7) v7))) u3)]) (h' := h) (cs := []) (by decide +kernel) rfl trivial) ?_
        rcases it_of hF with ⟨hb, hF⟩ | ⟨hb, hF⟩
        · refine RK.of (RN.icf (cd := .ne) (off := 12) (tgt := 91) (by decide +kernel) (mif_nen hb)) ?_
          refine RK.of (RN.blk (ops := [(82, .iload 7), (84, .iload_n 2)]) (pc' := 85) (lv' := [(8, .inl (Int.tmod (m_w32 (u1 * (m_rd h (u0 + 7) v7))) u3)), (4, .inl (m_w32 (v4 - (m_w32 (Int.tdiv (m_w32 (u1 * (m_rd h (u0 + 7) v7))) u3))))), (0, .inr (.inr u0)), (1, .inl u1), (2, .inl u2), (3, .inl u3), (5, .inl v5), (6, .inl u6), (7, .inl v7)]) (st' := [.inl u2, .inl v7]) (h' := h) (cs := []) (by decide +kernel) rfl trivial) ?_
          rcases it_of hF with ⟨hb, hF⟩ | ⟨hb, hF⟩
          · refine RK.of (RN.icf (cd := .ge) (off := 6) (tgt := 91) (by decide +kernel) (mif_gen hb)) ?_
            refine RK.of (RN.blk (ops := [(88, .iinc 5 1)]) (pc' := 91) (lv' := [(5, .inl (m_w32 (v5 + 1))), (8, .inl (Int.tmod (m_w32 (u1 * (m_rd h (u0 + 7) v7))) u3)), (4, .inl (m_w32 (v4 - (m_w32 (Int.tdiv (m_w32 (u1 * (m_rd h (u0 + 7) v7))) u3))))), (0, .inr (.inr u0)), (1, .inl u1), (2, .inl u2), (3, .inl u3), (6, .inl u6), (7, .inl v7)]) (st' := []) (h' := h) (cs := []) (by decide +kernel) rfl trivial) ?_
            refine RK.of (RN.blk (ops := [(91, .iinc 7 1)]) (pc' := 94) (lv' := [(7, .inl (m_w32 (v7 + 1))), (5, .inl (m_w32 (v5 + 1))), (8, .inl (Int.tmod (m_w32 (u1 * (m_rd h (u0 + 7) v7))) u3)), (4, .inl (m_w32 (v4 - (m_w32 (Int.tdiv (m_w32 (u1 * (m_rd h (u0 + 7) v7))) u3))))), (0, .inr (.inr u0)), (1, .inl u1), (2, .inl u2), (3, .inl u3), (6, .inl u6)]) (st' := []) (h' := h) (cs := []) (by decide +kernel) rfl trivial) ?_
            refine RK.of (RN.goto (off := -62) (tgt := 32) (by decide +kernel)) ?_
            exact RK.sub (ih _ _ _ _ hL hJ hF) (sub_cons rfl (sub_cons rfl (sub_cons rfl (sub_cons rfl (sub_cons rfl (sub_cons rfl (sub_cons rfl (sub_cons rfl sub_nil))))))))
          · refine RK.of (RN.ict (cd := .ge) (off := 6) (tgt := 91) (by decide +kernel) (mif_ge hb)) ?_
            refine RK.of (RN.blk (ops := [(91, .iinc 7 1)]) (pc' := 94) (lv' := [(7, .inl (m_w32 (v7 + 1))), (8, .inl (Int.tmod (m_w32 (u1 * (m_rd h (u0 + 7) v7))) u3)), (4, .inl (m_w32 (v4 - (m_w32 (Int.tdiv (m_w32 (u1 * (m_rd h (u0 + 7) v7))) u3))))), (0, .inr (.inr u0)), (1, .inl u1), (2, .inl u2), (3, .inl u3), (5, .inl v5), (6, .inl u6)]) (st' := []) (h' := h) (cs := []) (by decide +kernel) rfl trivial) ?_
            refine RK.of (RN.goto (off := -62) (tgt := 32) (by decide +kernel)) ?_
            exact RK.sub (ih _ _ _ _ hL hJ hF) (sub_cons rfl (sub_cons rfl (sub_cons rfl (sub_cons rfl (sub_cons rfl (sub_cons rfl (sub_cons rfl (sub_cons rfl sub_nil))))))))
        · refine RK.of (RN.ict (cd := .ne) (off := 12) (tgt := 91) (by decide +kernel) (mif_ne hb)) ?_
          refine RK.of (RN.blk (ops := [(91, .iinc 7 1)]) (pc' := 94) (lv' := [(7, .inl (m_w32 (v7 + 1))), (8, .inl (Int.tmod (m_w32 (u1 * (m_rd h (u0 + 7) v7))) u3)), (4, .inl (m_w32 (v4 - (m_w32 (Int.tdiv (m_w32 (u1 * (m_rd h (u0 + 7) v7))) u3))))), (0, .inr (.inr u0)), (1, .inl u1), (2, .inl u2), (3, .inl u3), (5, .inl v5), (6, .inl u6)]) (st' := []) (h' := h) (cs := []) (by decide +kernel) rfl trivial) ?_
          refine RK.of (RN.goto (off := -62) (tgt := 32) (by decide +kernel)) ?_
          exact RK.sub (ih _ _ _ _ hL hJ hF) (sub_cons rfl (sub_cons rfl (sub_cons rfl (sub_cons rfl (sub_cons rfl (sub_cons rfl (sub_cons rfl (sub_cons rfl sub_nil))))))))
    · refine RK.of (RN.ict (cd := .ge) (off := 61) (tgt := 97) (by decide +kernel) (mif_ge hb)) ?_
      exact RK.sub (hK0 _ _ _ hL hJ hF) (sub_cons rfl (sub_cons rfl (sub_cons rfl (sub_cons rfl (sub_cons rfl (sub_cons rfl sub_nil))))))
noncomputable def GX10_shareOf (t : Int) (a1 : Int) (a2 : Int) (h : MH) : Option (Int × MH) :=
  (bd (GX10_bagsOfAll t h) (fun x2 h1 =>
   (if x2 = 0 then
    some (0, h1)
   else
    gd [IB a2 6, (x2 : Int) ≠ 0] (
     GX10_shareOf_L32 t a1 a2 x2 (Int.tmod (m_w32 (a1 * (m_rd h1 (t + 7) a2))) x2) (fun w3 w4 h5 =>
      gd [IB a2 6, (x2 : Int) ≠ 0] (
       (if w4 < w3 then
        some ((m_w32 ((m_w32 (Int.tdiv (m_w32 (a1 * (m_rd h5 (t + 7) a2))) x2)) + 1)), h5)
       else
        some ((m_w32 (Int.tdiv (m_w32 (a1 * (m_rd h5 (t + 7) a2))) x2)), h5)))) FU a1 0 0 h1))))
theorem DX10_shareOf {d : Nat} {t : Int} {a1 : Int} {a2 : Int} {h : MH} {r : Int × MH} (hL : LR h) (k0_t : TO h t 10) (hF : GX10_shareOf t a1 a2 h = some r) : RN xs L iX10_shareOf (d + 2) 0 (lvE 0 [.inr (.inr t), .inl a1, .inl a2]) [] h (RIo r) ∧ LR r.2 ∧ KD h r.2 := by
  unfold GX10_shareOf at hF
  have hK : KD h h := KD.rf
  have k_t := k0_t
  show RK xs L iX10_shareOf (d + 2) 0 (lvE 0 [.inr (.inr t), .inl a1, .inl a2]) [] h (RIo r) h r.2
  refine RK.of (RN.blk (ops := [(0, .aload_n 0)]) (pc' := 1) (lv' := [(0, .inr (.inr t)), (1, .inl a1), (2, .inl a2)]) (st' := [.inr (.inr t)]) (h' := h) (cs := []) (by decide +kernel) rfl trivial) ?_
  obtain ⟨x2, h1, hG, hF⟩ := bd_of hF
  have hq := rcv_ok (as := []) (TO.gk k_t)
  obtain ⟨hN, hL, hQ⟩ := DX10_bagsOfAll (d := d) hL k_t hG
  refine RK.of (RN.cv (i := 61) (k := 106) (q2 := iX10_bagsOfAll) (as := [.inr (.inr t)]) (r := []) (v := some (.inl x2)) (h1 := h1) (by decide +kernel) rfl rfl rfl rfl rfl hq hN) ?_
  have k_t := hQ.to k_t
  have hK := hK.tr hQ
  refine RK.of (RN.blk (ops := [(4, .istore_n 3), (5, .iload_n 3)]) (pc' := 6) (lv' := [(3, .inl x2), (0, .inr (.inr t)), (1, .inl a1), (2, .inl a2)]) (st' := [.inl x2]) (h' := h1) (cs := []) (by decide +kernel) rfl trivial) ?_
  rcases it_of hF with ⟨hb, hF⟩ | ⟨hb, hF⟩
  · refine RK.of (RN.iff (cd := .ne) (off := 5) (tgt := 11) (by decide +kernel) (mif_nen hb)) ?_
    refine RK.of (RN.blk (ops := [(9, .iconst 0)]) (pc' := 10) (lv' := [(3, .inl x2), (0, .inr (.inr t)), (1, .inl a1), (2, .inl a2)]) (st' := [.inl 0]) (h' := h1) (cs := []) (by decide +kernel) rfl trivial) ?_
    exact RK.iR (by decide +kernel) rfl hL hK hF
  · refine RK.of (RN.ift (cd := .ne) (off := 5) (tgt := 11) (by decide +kernel) (mif_ne hb)) ?_
    refine RK.of (RN.blk (ops := [(11, .iload_n 1), (12, .istore 4), (14, .iconst 0), (15, .istore 5), (17, .iload_n 1), (18, .aload_n 0)]) (pc' := 19) (lv' := [(5, .inl 0), (4, .inl a1), (3, .inl x2), (0, .inr (.inr t)), (1, .inl a1), (2, .inl a2)]) (st' := [.inr (.inr t), .inl a1]) (h' := h1) (cs := []) (by decide +kernel) rfl trivial) ?_
    refine RK.of (RN.gr (i := 25) (ci := 10) (k := 4) (fn := true) (v := (t + 7)) (by decide +kernel) rfl (TO.gk k_t) (hL.fa (v := (t + 7)) 4 1 6 k_t rfl rfl rfl (by decide)).1) ?_
    obtain ⟨hc, hF⟩ := gd_of hF
    refine RK.of (RN.blk (ops := [(22, .iload_n 2), (23, .iaload), (24, .imul), (25, .iload_n 3), (26, .irem), (27, .istore 6), (29, .iconst 0), (30, .istore 7)]) (pc' := 32) (lv' := [(7, .inl 0), (6, .inl (Int.tmod (m_w32 (a1 * (m_rd h1 (t + 7) a2))) x2)), (5, .inl 0), (4, .inl a1), (3, .inl x2), (0, .inr (.inr t)), (1, .inl a1), (2, .inl a2)]) (st' := []) (h' := h1) (cs := [GI h1 (t + 7) 1 a2, (x2 : Int) ≠ 0]) (by decide +kernel) rfl ⟨(hL.fa 4 1 6 k_t rfl rfl rfl (by decide)).2.gi hc.1.1 hc.1.2, hc.2.1, trivial⟩) ?_
    refine RK.sub (DX10_shareOf_L32 hK k_t ?_ _ _ _ _ _ hL KD.rf hF) (sub_cons rfl (sub_cons rfl (sub_cons rfl (sub_cons rfl (sub_cons rfl (sub_cons rfl (sub_cons rfl (sub_cons rfl sub_nil))))))))
    · intro w3 w4 h5 hL hq hF
      have k_t := hq.to k_t
      have hK := hK.tr hq
      refine RK.of (RN.blk (ops := [(97, .iload_n 1), (98, .aload_n 0)]) (pc' := 99) (lv' := [(0, .inr (.inr t)), (1, .inl a1), (2, .inl a2), (3, .inl x2), (4, .inl w3), (5, .inl w4)]) (st' := [.inr (.inr t), .inl a1]) (h' := h5) (cs := []) (by decide +kernel) rfl trivial) ?_
      refine RK.of (RN.gr (i := 25) (ci := 10) (k := 4) (fn := true) (v := (t + 7)) (by decide +kernel) rfl (TO.gk k_t) (hL.fa (v := (t + 7)) 4 1 6 k_t rfl rfl rfl (by decide)).1) ?_
      obtain ⟨hc, hF⟩ := gd_of hF
      refine RK.of (RN.blk (ops := [(102, .iload_n 2), (103, .iaload), (104, .imul), (105, .iload_n 3), (106, .idiv), (107, .istore 7), (109, .iload 5), (111, .iload 4)]) (pc' := 113) (lv' := [(7, .inl (m_w32 (Int.tdiv (m_w32 (a1 * (m_rd h5 (t + 7) a2))) x2))), (0, .inr (.inr t)), (1, .inl a1), (2, .inl a2), (3, .inl x2), (4, .inl w3), (5, .inl w4)]) (st' := [.inl w3, .inl w4]) (h' := h5) (cs := [GI h5 (t + 7) 1 a2, (x2 : Int) ≠ 0]) (by decide +kernel) rfl ⟨(hL.fa 4 1 6 k_t rfl rfl rfl (by decide)).2.gi hc.1.1 hc.1.2, hc.2.1, trivial⟩) ?_
      rcases it_of hF with ⟨hb, hF⟩ | ⟨hb, hF⟩
      · refine RK.of (RN.icf (cd := .ge) (off := 10) (tgt := 123) (by decide +kernel) (mif_gen hb)) ?_
        refine RK.of (RN.blk (ops := [(116, .iload 7), (118, .iconst 1), (119, .iadd)]) (pc' := 120) (lv' := [(7, .inl (m_w32 (Int.tdiv (m_w32 (a1 * (m_rd h5 (t + 7) a2))) x2))), (0, .inr (.inr t)), (1, .inl a1), (2, .inl a2), (3, .inl x2), (4, .inl w3), (5, .inl w4)]) (st' := [.inl (m_w32 ((m_w32 (Int.tdiv (m_w32 (a1 * (m_rd h5 (t + 7) a2))) x2)) + 1))]) (h' := h5) (cs := []) (by decide +kernel) rfl trivial) ?_
        refine RK.of (RN.goto (off := 5) (tgt := 125) (by decide +kernel)) ?_
        exact RK.iR (by decide +kernel) rfl hL hK hF
      · refine RK.of (RN.ict (cd := .ge) (off := 10) (tgt := 123) (by decide +kernel) (mif_ge hb)) ?_
        refine RK.of (RN.blk (ops := [(123, .iload 7)]) (pc' := 125) (lv' := [(7, .inl (m_w32 (Int.tdiv (m_w32 (a1 * (m_rd h5 (t + 7) a2))) x2))), (0, .inr (.inr t)), (1, .inl a1), (2, .inl a2), (3, .inl x2), (4, .inl w3), (5, .inl w4)]) (st' := [.inl (m_w32 (Int.tdiv (m_w32 (a1 * (m_rd h5 (t + 7) a2))) x2))]) (h' := h5) (cs := []) (by decide +kernel) rfl trivial) ?_
        exact RK.iR (by decide +kernel) rfl hL hK hF
noncomputable def GX11_feed (a1 : Int) (a2 : Int) (a3 : Int) (a4 : Int) (a5 : Int) (h : MH) : Option (Int × MH) :=
  (if 400 < (m_w32 ((m_rd h 1 1) + 20)) then
   some ((-1), h)
  else
   (bv (GX9_add a1 h) (fun h1 =>
    (bv (GX9_add a2 h1) (fun h2 =>
     (bv (GX9_add a3 h2) (fun h3 =>
      (bv (GX9_add a4 h3) (fun h4 =>
       (bv (GX9_add a5 h4) (fun h5 =>
        some ((m_rd h5 1 1), h5))))))))))))
theorem DX11_feed {d : Nat} {a1 : Int} {a2 : Int} {a3 : Int} {a4 : Int} {a5 : Int} {h : MH} {r : Int × MH} (hL : LR h) (hF : GX11_feed a1 a2 a3 a4 a5 h = some r) : RN xs L iX11_feed (d + 1) 0 (lvE 0 [.inr (.inr 0), .inl a1, .inl a2, .inl a3, .inl a4, .inl a5]) [] h (RIo r) ∧ LR r.2 ∧ KD h r.2 := by
  unfold GX11_feed at hF
  have hK : KD h h := KD.rf
  show RK xs L iX11_feed (d + 1) 0 (lvE 0 [.inr (.inr 0), .inl a1, .inl a2, .inl a3, .inl a4, .inl a5]) [] h (RIo r) h r.2
  refine RK.of (RN.blk (ops := [(0, .aload_n 0)]) (pc' := 1) (lv' := [(0, .inr (.inr 0)), (1, .inl a1), (2, .inl a2), (3, .inl a3), (4, .inl a4), (5, .inl a5)]) (st' := [.inr (.inr 0)]) (h' := h) (cs := []) (by decide +kernel) rfl trivial) ?_
  refine RK.of (RN.gr (i := 10) (ci := 11) (k := 0) (fn := true) (v := 1) (by decide +kernel) rfl (TO.gk (o_0 hL)) (hL.fo (v := 1) 0 9 (o_0 hL) rfl (by decide) rfl).1) ?_
  refine RK.of (RN.blk (ops := [(4, .getfield 83), (7, .bipush 20), (9, .iadd), (10, .sipush 400)]) (pc' := 13) (lv' := [(0, .inr (.inr 0)), (1, .inl a1), (2, .inl a2), (3, .inl a3), (4, .inl a4), (5, .inl a5)]) (st' := [.inl 400, .inl (m_w32 ((m_rd h 1 1) + 20))]) (h' := h) (cs := [GK h 1 9]) (by decide +kernel) rfl ⟨(o_1 hL).gk, trivial⟩) ?_
  rcases it_of hF with ⟨hb, hF⟩ | ⟨hb, hF⟩
  · refine RK.of (RN.icf (cd := .le) (off := 5) (tgt := 18) (by decide +kernel) (mif_len hb)) ?_
    refine RK.of (RN.blk (ops := [(16, .iconst (-1))]) (pc' := 17) (lv' := [(0, .inr (.inr 0)), (1, .inl a1), (2, .inl a2), (3, .inl a3), (4, .inl a4), (5, .inl a5)]) (st' := [.inl (-1)]) (h' := h) (cs := []) (by decide +kernel) rfl trivial) ?_
    exact RK.iR (by decide +kernel) rfl hL hK hF
  · refine RK.of (RN.ict (cd := .le) (off := 5) (tgt := 18) (by decide +kernel) (mif_le hb)) ?_
    refine RK.of (RN.blk (ops := [(18, .aload_n 0)]) (pc' := 19) (lv' := [(0, .inr (.inr 0)), (1, .inl a1), (2, .inl a2), (3, .inl a3), (4, .inl a4), (5, .inl a5)]) (st' := [.inr (.inr 0)]) (h' := h) (cs := []) (by decide +kernel) rfl trivial) ?_
    refine RK.of (RN.gr (i := 10) (ci := 11) (k := 0) (fn := true) (v := 1) (by decide +kernel) rfl (TO.gk (o_0 hL)) (hL.fo (v := 1) 0 9 (o_0 hL) rfl (by decide) rfl).1) ?_
    refine RK.of (RN.blk (ops := [(22, .iload_n 1)]) (pc' := 23) (lv' := [(0, .inr (.inr 0)), (1, .inl a1), (2, .inl a2), (3, .inl a3), (4, .inl a4), (5, .inl a5)]) (st' := [.inl a1, .inr (.inr 1)]) (h' := h) (cs := []) (by decide +kernel) rfl trivial) ?_
    obtain ⟨h1, hG, hF⟩ := bv_of hF
    have hq := rcv_ok (as := [.inl a1]) (TO.gk (o_1 hL))
    obtain ⟨hN, hL, hQ⟩ := DX9_add (d := d) hL  hG
    refine RK.of (RN.cv (i := 87) (k := 89) (q2 := iX9_add) (as := [.inr (.inr 1), .inl a1]) (r := []) (v := none) (h1 := h1) (by decide +kernel) rfl rfl rfl rfl rfl hq hN) ?_
    have hK := hK.tr hQ
    refine RK.of (RN.blk (ops := [(26, .aload_n 0)]) (pc' := 27) (lv' := [(0, .inr (.inr 0)), (1, .inl a1), (2, .inl a2), (3, .inl a3), (4, .inl a4), (5, .inl a5)]) (st' := [.inr (.inr 0)]) (h' := h1) (cs := []) (by decide +kernel) rfl trivial) ?_
    refine RK.of (RN.gr (i := 10) (ci := 11) (k := 0) (fn := true) (v := 1) (by decide +kernel) rfl (TO.gk (o_0 hL)) (hL.fo (v := 1) 0 9 (o_0 hL) rfl (by decide) rfl).1) ?_
    refine RK.of (RN.blk (ops := [(30, .iload_n 2)]) (pc' := 31) (lv' := [(0, .inr (.inr 0)), (1, .inl a1), (2, .inl a2), (3, .inl a3), (4, .inl a4), (5, .inl a5)]) (st' := [.inl a2, .inr (.inr 1)]) (h' := h1) (cs := []) (by decide +kernel) rfl trivial) ?_
    obtain ⟨h2, hG, hF⟩ := bv_of hF
    have hq := rcv_ok (as := [.inl a2]) (TO.gk (o_1 hL))
    obtain ⟨hN, hL, hQ⟩ := DX9_add (d := d) hL  hG
    refine RK.of (RN.cv (i := 87) (k := 89) (q2 := iX9_add) (as := [.inr (.inr 1), .inl a2]) (r := []) (v := none) (h1 := h2) (by decide +kernel) rfl rfl rfl rfl rfl hq hN) ?_
    have hK := hK.tr hQ
    refine RK.of (RN.blk (ops := [(34, .aload_n 0)]) (pc' := 35) (lv' := [(0, .inr (.inr 0)), (1, .inl a1), (2, .inl a2), (3, .inl a3), (4, .inl a4), (5, .inl a5)]) (st' := [.inr (.inr 0)]) (h' := h2) (cs := []) (by decide +kernel) rfl trivial) ?_
    refine RK.of (RN.gr (i := 10) (ci := 11) (k := 0) (fn := true) (v := 1) (by decide +kernel) rfl (TO.gk (o_0 hL)) (hL.fo (v := 1) 0 9 (o_0 hL) rfl (by decide) rfl).1) ?_
    refine RK.of (RN.blk (ops := [(38, .iload_n 3)]) (pc' := 39) (lv' := [(0, .inr (.inr 0)), (1, .inl a1), (2, .inl a2), (3, .inl a3), (4, .inl a4), (5, .inl a5)]) (st' := [.inl a3, .inr (.inr 1)]) (h' := h2) (cs := []) (by decide +kernel) rfl trivial) ?_
    obtain ⟨h3, hG, hF⟩ := bv_of hF
    have hq := rcv_ok (as := [.inl a3]) (TO.gk (o_1 hL))
    obtain ⟨hN, hL, hQ⟩ := DX9_add (d := d) hL  hG
    refine RK.of (RN.cv (i := 87) (k := 89) (q2 := iX9_add) (as := [.inr (.inr 1), .inl a3]) (r := []) (v := none) (h1 := h3) (by decide +kernel) rfl rfl rfl rfl rfl hq hN) ?_
    have hK := hK.tr hQ
    refine RK.of (RN.blk (ops := [(42, .aload_n 0)]) (pc' := 43) (lv' := [(0, .inr (.inr 0)), (1, .inl a1), (2, .inl a2), (3, .inl a3), (4, .inl a4), (5, .inl a5)]) (st' := [.inr (.inr 0)]) (h' := h3) (cs := []) (by decide +kernel) rfl trivial) ?_
    refine RK.of (RN.gr (i := 10) (ci := 11) (k := 0) (fn := true) (v := 1) (by decide +kernel) rfl (TO.gk (o_0 hL)) (hL.fo (v := 1) 0 9 (o_0 hL) rfl (by decide) rfl).1) ?_
    refine RK.of (RN.blk (ops := [(46, .iload 4)]) (pc' := 48) (lv' := [(0, .inr (.inr 0)), (1, .inl a1), (2, .inl a2), (3, .inl a3), (4, .inl a4), (5, .inl a5)]) (st' := [.inl a4, .inr (.inr 1)]) (h' := h3) (cs := []) (by decide +kernel) rfl trivial) ?_
    obtain ⟨h4, hG, hF⟩ := bv_of hF
    have hq := rcv_ok (as := [.inl a4]) (TO.gk (o_1 hL))
    obtain ⟨hN, hL, hQ⟩ := DX9_add (d := d) hL  hG
    refine RK.of (RN.cv (i := 87) (k := 89) (q2 := iX9_add) (as := [.inr (.inr 1), .inl a4]) (r := []) (v := none) (h1 := h4) (by decide +kernel) rfl rfl rfl rfl rfl hq hN) ?_
    have hK := hK.tr hQ
    refine RK.of (RN.blk (ops := [(51, .aload_n 0)]) (pc' := 52) (lv' := [(0, .inr (.inr 0)), (1, .inl a1), (2, .inl a2), (3, .inl a3), (4, .inl a4), (5, .inl a5)]) (st' := [.inr (.inr 0)]) (h' := h4) (cs := []) (by decide +kernel) rfl trivial) ?_
    refine RK.of (RN.gr (i := 10) (ci := 11) (k := 0) (fn := true) (v := 1) (by decide +kernel) rfl (TO.gk (o_0 hL)) (hL.fo (v := 1) 0 9 (o_0 hL) rfl (by decide) rfl).1) ?_
    refine RK.of (RN.blk (ops := [(55, .iload 5)]) (pc' := 57) (lv' := [(0, .inr (.inr 0)), (1, .inl a1), (2, .inl a2), (3, .inl a3), (4, .inl a4), (5, .inl a5)]) (st' := [.inl a5, .inr (.inr 1)]) (h' := h4) (cs := []) (by decide +kernel) rfl trivial) ?_
    obtain ⟨h5, hG, hF⟩ := bv_of hF
    have hq := rcv_ok (as := [.inl a5]) (TO.gk (o_1 hL))
    obtain ⟨hN, hL, hQ⟩ := DX9_add (d := d) hL  hG
    refine RK.of (RN.cv (i := 87) (k := 89) (q2 := iX9_add) (as := [.inr (.inr 1), .inl a5]) (r := []) (v := none) (h1 := h5) (by decide +kernel) rfl rfl rfl rfl rfl hq hN) ?_
    have hK := hK.tr hQ
    refine RK.of (RN.blk (ops := [(60, .aload_n 0)]) (pc' := 61) (lv' := [(0, .inr (.inr 0)), (1, .inl a1), (2, .inl a2), (3, .inl a3), (4, .inl a4), (5, .inl a5)]) (st' := [.inr (.inr 0)]) (h' := h5) (cs := []) (by decide +kernel) rfl trivial) ?_
    refine RK.of (RN.gr (i := 10) (ci := 11) (k := 0) (fn := true) (v := 1) (by decide +kernel) rfl (TO.gk (o_0 hL)) (hL.fo (v := 1) 0 9 (o_0 hL) rfl (by decide) rfl).1) ?_
    refine RK.of (RN.blk (ops := [(64, .getfield 83)]) (pc' := 67) (lv' := [(0, .inr (.inr 0)), (1, .inl a1), (2, .inl a2), (3, .inl a3), (4, .inl a4), (5, .inl a5)]) (st' := [.inl (m_rd h5 1 1)]) (h' := h5) (cs := [GK h5 1 9]) (by decide +kernel) rfl ⟨(o_1 hL).gk, trivial⟩) ?_
    exact RK.iR (by decide +kernel) rfl hL hK hF
noncomputable def GX11_end (a1 : Int) (h : MH) : Option (Int × MH) :=
  (if a1 < 0 then
   some ((-1), h)
  else
   (if (m_rd h 1 1) < a1 then
    some ((-1), h)
   else
    some (a1, (m_wr h 1 1 a1))))
theorem DX11_end {d : Nat} {a1 : Int} {h : MH} {r : Int × MH} (hL : LR h) (hF : GX11_end a1 h = some r) : RN xs L iX11_end (d) 0 (lvE 0 [.inr (.inr 0), .inl a1]) [] h (RIo r) ∧ LR r.2 ∧ KD h r.2 := by
  unfold GX11_end at hF
  have hK : KD h h := KD.rf
  show RK xs L iX11_end (d) 0 (lvE 0 [.inr (.inr 0), .inl a1]) [] h (RIo r) h r.2
  refine RK.of (RN.blk (ops := [(0, .iload_n 1)]) (pc' := 1) (lv' := [(0, .inr (.inr 0)), (1, .inl a1)]) (st' := [.inl a1]) (h' := h) (cs := []) (by decide +kernel) rfl trivial) ?_
  rcases it_of hF with ⟨hb, hF⟩ | ⟨hb, hF⟩
  · refine RK.of (RN.ift (cd := .lt) (off := 14) (tgt := 15) (by decide +kernel) (mif_lt hb)) ?_
    refine RK.of (RN.blk (ops := [(15, .iconst (-1))]) (pc' := 16) (lv' := [(0, .inr (.inr 0)), (1, .inl a1)]) (st' := [.inl (-1)]) (h' := h) (cs := []) (by decide +kernel) rfl trivial) ?_
    exact RK.iR (by decide +kernel) rfl hL hK hF
  · refine RK.of (RN.iff (cd := .lt) (off := 14) (tgt := 15) (by decide +kernel) (mif_ltn hb)) ?_
    refine RK.of (RN.blk (ops := [(4, .iload_n 1), (5, .aload_n 0)]) (pc' := 6) (lv' := [(0, .inr (.inr 0)), (1, .inl a1)]) (st' := [.inr (.inr 0), .inl a1]) (h' := h) (cs := []) (by decide +kernel) rfl trivial) ?_
    refine RK.of (RN.gr (i := 10) (ci := 11) (k := 0) (fn := true) (v := 1) (by decide +kernel) rfl (TO.gk (o_0 hL)) (hL.fo (v := 1) 0 9 (o_0 hL) rfl (by decide) rfl).1) ?_
    refine RK.of (RN.blk (ops := [(9, .getfield 83)]) (pc' := 12) (lv' := [(0, .inr (.inr 0)), (1, .inl a1)]) (st' := [.inl (m_rd h 1 1), .inl a1]) (h' := h) (cs := [GK h 1 9]) (by decide +kernel) rfl ⟨(o_1 hL).gk, trivial⟩) ?_
    rcases it_of hF with ⟨hb, hF⟩ | ⟨hb, hF⟩
    · refine RK.of (RN.icf (cd := .le) (off := 5) (tgt := 17) (by decide +kernel) (mif_len hb)) ?_
      refine RK.of (RN.blk (ops := [(15, .iconst (-1))]) (pc' := 16) (lv' := [(0, .inr (.inr 0)), (1, .inl a1)]) (st' := [.inl (-1)]) (h' := h) (cs := []) (by decide +kernel) rfl trivial) ?_
      exact RK.iR (by decide +kernel) rfl hL hK hF
    · refine RK.of (RN.ict (cd := .le) (off := 5) (tgt := 17) (by decide +kernel) (mif_le hb)) ?_
      refine RK.of (RN.blk (ops := [(17, .aload_n 0)]) (pc' := 18) (lv' := [(0, .inr (.inr 0)), (1, .inl a1)]) (st' := [.inr (.inr 0)]) (h' := h) (cs := []) (by decide +kernel) rfl trivial) ?_
      refine RK.of (RN.gr (i := 10) (ci := 11) (k := 0) (fn := true) (v := 1) (by decide +kernel) rfl (TO.gk (o_0 hL)) (hL.fo (v := 1) 0 9 (o_0 hL) rfl (by decide) rfl).1) ?_
      refine RK.of (RN.blk (ops := [(21, .iload_n 1), (22, .putfield 83)]) (pc' := 25) (lv' := [(0, .inr (.inr 0)), (1, .inl a1)]) (st' := []) (h' := (m_wr h 1 1 a1)) (cs := [GK h 1 9]) (by decide +kernel) rfl ⟨(o_1 hL).gk, trivial⟩) ?_
      have hL : LR (m_wr h 1 1 a1) := LR.wf (k := 1) hL (o_1 hL) rfl
      have hK := hK.tr (KD.wr : KD h (m_wr h 1 1 a1))
      refine RK.of (RN.blk (ops := [(25, .iload_n 1)]) (pc' := 26) (lv' := [(0, .inr (.inr 0)), (1, .inl a1)]) (st' := [.inl a1]) (h' := (m_wr h 1 1 a1)) (cs := []) (by decide +kernel) rfl trivial) ?_
      exact RK.iR (by decide +kernel) rfl hL hK hF
noncomputable def GX11_frame (h : MH) : Option (Int × MH) :=
  (bd (GX3_parse h) (fun x2 h1 =>
   (if x2 = 0 then
    (bv (GX2_take 20 4 7 (m_wr h1 1 1 0)) (fun h3 =>
     some ((m_rd (m_wr h3 0 10 0) 33 0), (m_wr h3 0 10 0))))
   else
    some ((m_w32 ((-2) - x2)), (m_wr h1 1 1 0)))))
theorem DX11_frame {d : Nat} {h : MH} {r : Int × MH} (hL : LR h) (hF : GX11_frame h = some r) : RN xs L iX11_frame (d + 10) 0 (lvE 0 [.inr (.inr 0)]) [] h (RIo r) ∧ LR r.2 ∧ KD h r.2 := by
  unfold GX11_frame at hF
  have hK : KD h h := KD.rf
  show RK xs L iX11_frame (d + 10) 0 (lvE 0 [.inr (.inr 0)]) [] h (RIo r) h r.2
  refine RK.of (RN.blk (ops := [(0, .aload_n 0)]) (pc' := 1) (lv' := [(0, .inr (.inr 0))]) (st' := [.inr (.inr 0)]) (h' := h) (cs := []) (by decide +kernel) rfl trivial) ?_
  refine RK.of (RN.gr (i := 21) (ci := 11) (k := 1) (fn := true) (v := 3) (by decide +kernel) rfl (TO.gk (o_0 hL)) (hL.fo (v := 3) 1 3 (o_0 hL) rfl (by decide) rfl).1) ?_
  obtain ⟨x2, h1, hG, hF⟩ := bd_of hF
  have hq := rcv_ok (as := []) (TO.gk (o_3 hL))
  obtain ⟨hN, hL, hQ⟩ := DX3_parse (d := d) hL  hG
  refine RK.of (RN.cv (i := 91) (k := 36) (q2 := iX3_parse) (as := [.inr (.inr 3)]) (r := []) (v := some (.inl x2)) (h1 := h1) (by decide +kernel) rfl rfl rfl rfl rfl hq hN) ?_
  have hK := hK.tr hQ
  refine RK.of (RN.blk (ops := [(7, .istore_n 1), (8, .aload_n 0)]) (pc' := 9) (lv' := [(1, .inl x2), (0, .inr (.inr 0))]) (st' := [.inr (.inr 0)]) (h' := h1) (cs := []) (by decide +kernel) rfl trivial) ?_
  refine RK.of (RN.gr (i := 10) (ci := 11) (k := 0) (fn := true) (v := 1) (by decide +kernel) rfl (TO.gk (o_0 hL)) (hL.fo (v := 1) 0 9 (o_0 hL) rfl (by decide) rfl).1) ?_
  refine RK.of (RN.blk (ops := [(12, .iconst 0), (13, .putfield 83)]) (pc' := 16) (lv' := [(1, .inl x2), (0, .inr (.inr 0))]) (st' := []) (h' := (m_wr h1 1 1 0)) (cs := [GK h1 1 9]) (by decide +kernel) rfl ⟨(o_1 hL).gk, trivial⟩) ?_
  have hL : LR (m_wr h1 1 1 0) := LR.wf (k := 1) hL (o_1 hL) rfl
  have hK := hK.tr (KD.wr : KD h1 (m_wr h1 1 1 0))
  refine RK.of (RN.blk (ops := [(16, .iload_n 1)]) (pc' := 17) (lv' := [(1, .inl x2), (0, .inr (.inr 0))]) (st' := [.inl x2]) (h' := (m_wr h1 1 1 0)) (cs := []) (by decide +kernel) rfl trivial) ?_
  rcases it_of hF with ⟨hb, hF⟩ | ⟨hb, hF⟩
  · refine RK.of (RN.ift (cd := .eq) (off := 8) (tgt := 25) (by decide +kernel) (mif_eq hb)) ?_
    refine RK.of (RN.blk (ops := [(25, .aload_n 0)]) (pc' := 26) (lv' := [(1, .inl x2), (0, .inr (.inr 0))]) (st' := [.inr (.inr 0)]) (h' := (m_wr h1 1 1 0)) (cs := []) (by decide +kernel) rfl trivial) ?_
    refine RK.of (RN.gr (i := 41) (ci := 11) (k := 5) (fn := true) (v := 20) (by decide +kernel) rfl (TO.gk (o_0 hL)) (hL.fo (v := 20) 5 2 (o_0 hL) rfl (by decide) rfl).1) ?_
    refine RK.of (RN.blk (ops := [(29, .aload_n 0)]) (pc' := 30) (lv' := [(1, .inl x2), (0, .inr (.inr 0))]) (st' := [.inr (.inr 0), .inr (.inr 20)]) (h' := (m_wr h1 1 1 0)) (cs := []) (by decide +kernel) rfl trivial) ?_
    refine RK.of (RN.gr (i := 21) (ci := 11) (k := 1) (fn := true) (v := 3) (by decide +kernel) rfl (TO.gk (o_0 hL)) (hL.fo (v := 3) 1 3 (o_0 hL) rfl (by decide) rfl).1) ?_
    refine RK.of (RN.gr (i := 95) (ci := 3) (k := 1) (fn := true) (v := 4) (by decide +kernel) rfl (TO.gk (o_3 hL)) (hL.fo (v := 4) 1 8 (o_3 hL) rfl (by decide) rfl).1) ?_
    refine RK.of (RN.blk (ops := [(36, .aload_n 0)]) (pc' := 37) (lv' := [(1, .inl x2), (0, .inr (.inr 0))]) (st' := [.inr (.inr 0), .inr (.inr 4), .inr (.inr 20)]) (h' := (m_wr h1 1 1 0)) (cs := []) (by decide +kernel) rfl trivial) ?_
    refine RK.of (RN.gr (i := 21) (ci := 11) (k := 1) (fn := true) (v := 3) (by decide +kernel) rfl (TO.gk (o_0 hL)) (hL.fo (v := 3) 1 3 (o_0 hL) rfl (by decide) rfl).1) ?_
    refine RK.of (RN.gr (i := 99) (ci := 3) (k := 2) (fn := true) (v := 7) (by decide +kernel) rfl (TO.gk (o_3 hL)) (hL.fo (v := 7) 2 10 (o_3 hL) rfl (by decide) rfl).1) ?_
    obtain ⟨h3, hG, hF⟩ := bv_of hF
    have hq := rcv_ok (as := [.inr (.inr 4), .inr (.inr 7)]) (TO.gk (o_20 hL))
    obtain ⟨hN, hL, hQ⟩ := DX2_take (d := d + 6) hL (o_20 hL) (o_4 hL) (o_7 hL) hG
    refine RK.of (RN.cv (i := 103) (k := 30) (q2 := iX2_take) (as := [.inr (.inr 20), .inr (.inr 4), .inr (.inr 7)]) (r := []) (v := none) (h1 := h3) (by decide +kernel) rfl rfl rfl rfl rfl hq hN) ?_
    have hK := hK.tr hQ
    refine RK.of (RN.blk (ops := [(46, .aload_n 0), (47, .iconst 0), (48, .putfield 107)]) (pc' := 51) (lv' := [(1, .inl x2), (0, .inr (.inr 0))]) (st' := []) (h' := (m_wr h3 0 10 0)) (cs := [GK h3 0 11]) (by decide +kernel) rfl ⟨(o_0 hL).gk, trivial⟩) ?_
    have hL : LR (m_wr h3 0 10 0) := LR.wf (k := 10) hL (o_0 hL) rfl
    have hK := hK.tr (KD.wr : KD h3 (m_wr h3 0 10 0))
    refine RK.of (RN.blk (ops := [(51, .aload_n 0)]) (pc' := 52) (lv' := [(1, .inl x2), (0, .inr (.inr 0))]) (st' := [.inr (.inr 0)]) (h' := (m_wr h3 0 10 0)) (cs := []) (by decide +kernel) rfl trivial) ?_
    refine RK.of (RN.gr (i := 41) (ci := 11) (k := 5) (fn := true) (v := 20) (by decide +kernel) rfl (TO.gk (o_0 hL)) (hL.fo (v := 20) 5 2 (o_0 hL) rfl (by decide) rfl).1) ?_
    refine RK.of (RN.gr (i := 110) (ci := 2) (k := 2) (fn := true) (v := 32) (by decide +kernel) rfl (TO.gk (o_20 hL)) (hL.fo (v := 32) 2 10 (o_20 hL) rfl (by decide) rfl).1) ?_
    refine RK.of (RN.gr (i := 113) (ci := 10) (k := 0) (fn := true) (v := 33) (by decide +kernel) rfl (TO.gk (o_32 hL)) (hL.fo (v := 33) 0 4 (o_32 hL) rfl (by decide) rfl).1) ?_
    refine RK.of (RN.blk (ops := [(61, .getfield 117)]) (pc' := 64) (lv' := [(1, .inl x2), (0, .inr (.inr 0))]) (st' := [.inl (m_rd (m_wr h3 0 10 0) 33 0)]) (h' := (m_wr h3 0 10 0)) (cs := [GK (m_wr h3 0 10 0) 33 4]) (by decide +kernel) rfl ⟨(o_33 hL).gk, trivial⟩) ?_
    exact RK.iR (by decide +kernel) rfl hL hK hF
  · refine RK.of (RN.iff (cd := .eq) (off := 8) (tgt := 25) (by decide +kernel) (mif_eqn hb)) ?_
    refine RK.of (RN.blk (ops := [(20, .bipush (-2)), (22, .iload_n 1), (23, .isub)]) (pc' := 24) (lv' := [(1, .inl x2), (0, .inr (.inr 0))]) (st' := [.inl (m_w32 ((-2) - x2))]) (h' := (m_wr h1 1 1 0)) (cs := []) (by decide +kernel) rfl trivial) ?_
    exact RK.iR (by decide +kernel) rfl hL hK hF
noncomputable def GX11_force (a1 : Int) (h : MH) : Option (Int × MH) :=
  (if a1 < (-1) then
   some ((-2), h)
  else
   (if a1 < (m_rd h 0 4) then
    some ((m_rd h 20 3), (m_wr h 20 3 a1))
   else
    some ((-2), h)))
theorem DX11_force {d : Nat} {a1 : Int} {h : MH} {r : Int × MH} (hL : LR h) (hF : GX11_force a1 h = some r) : RN xs L iX11_force (d) 0 (lvE 0 [.inr (.inr 0), .inl a1]) [] h (RIo r) ∧ LR r.2 ∧ KD h r.2 := by
  unfold GX11_force at hF
  have hK : KD h h := KD.rf
  show RK xs L iX11_force (d) 0 (lvE 0 [.inr (.inr 0), .inl a1]) [] h (RIo r) h r.2
  refine RK.of (RN.blk (ops := [(0, .iload_n 1), (1, .iconst (-1))]) (pc' := 2) (lv' := [(0, .inr (.inr 0)), (1, .inl a1)]) (st' := [.inl (-1), .inl a1]) (h' := h) (cs := []) (by decide +kernel) rfl trivial) ?_
  rcases it_of hF with ⟨hb, hF⟩ | ⟨hb, hF⟩
  · refine RK.of (RN.ict (cd := .lt) (off := 11) (tgt := 13) (by decide +kernel) (mif_lt hb)) ?_
    refine RK.of (RN.blk (ops := [(13, .bipush (-2))]) (pc' := 15) (lv' := [(0, .inr (.inr 0)), (1, .inl a1)]) (st' := [.inl (-2)]) (h' := h) (cs := []) (by decide +kernel) rfl trivial) ?_
    exact RK.iR (by decide +kernel) rfl hL hK hF
  · refine RK.of (RN.icf (cd := .lt) (off := 11) (tgt := 13) (by decide +kernel) (mif_ltn hb)) ?_
    refine RK.of (RN.blk (ops := [(5, .iload_n 1), (6, .aload_n 0), (7, .getfield 120)]) (pc' := 10) (lv' := [(0, .inr (.inr 0)), (1, .inl a1)]) (st' := [.inl (m_rd h 0 4), .inl a1]) (h' := h) (cs := [GK h 0 11]) (by decide +kernel) rfl ⟨(o_0 hL).gk, trivial⟩) ?_
    rcases it_of hF with ⟨hb, hF⟩ | ⟨hb, hF⟩
    · refine RK.of (RN.ict (cd := .lt) (off := 6) (tgt := 16) (by decide +kernel) (mif_lt hb)) ?_
      refine RK.of (RN.blk (ops := [(16, .aload_n 0)]) (pc' := 17) (lv' := [(0, .inr (.inr 0)), (1, .inl a1)]) (st' := [.inr (.inr 0)]) (h' := h) (cs := []) (by decide +kernel) rfl trivial) ?_
      refine RK.of (RN.gr (i := 41) (ci := 11) (k := 5) (fn := true) (v := 20) (by decide +kernel) rfl (TO.gk (o_0 hL)) (hL.fo (v := 20) 5 2 (o_0 hL) rfl (by decide) rfl).1) ?_
      refine RK.of (RN.blk (ops := [(20, .getfield 127), (23, .istore_n 2), (24, .aload_n 0)]) (pc' := 25) (lv' := [(2, .inl (m_rd h 20 3)), (0, .inr (.inr 0)), (1, .inl a1)]) (st' := [.inr (.inr 0)]) (h' := h) (cs := [GK h 20 2]) (by decide +kernel) rfl ⟨(o_20 hL).gk, trivial⟩) ?_
      refine RK.of (RN.gr (i := 41) (ci := 11) (k := 5) (fn := true) (v := 20) (by decide +kernel) rfl (TO.gk (o_0 hL)) (hL.fo (v := 20) 5 2 (o_0 hL) rfl (by decide) rfl).1) ?_
      refine RK.of (RN.blk (ops := [(28, .iload_n 1), (29, .putfield 127)]) (pc' := 32) (lv' := [(2, .inl (m_rd h 20 3)), (0, .inr (.inr 0)), (1, .inl a1)]) (st' := []) (h' := (m_wr h 20 3 a1)) (cs := [GK h 20 2]) (by decide +kernel) rfl ⟨(o_20 hL).gk, trivial⟩) ?_
      have hL : LR (m_wr h 20 3 a1) := LR.wf (k := 3) hL (o_20 hL) rfl
      have hK := hK.tr (KD.wr : KD h (m_wr h 20 3 a1))
      refine RK.of (RN.blk (ops := [(32, .iload_n 2)]) (pc' := 33) (lv' := [(2, .inl (m_rd h 20 3)), (0, .inr (.inr 0)), (1, .inl a1)]) (st' := [.inl (m_rd h 20 3)]) (h' := (m_wr h 20 3 a1)) (cs := []) (by decide +kernel) rfl trivial) ?_
      exact RK.iR (by decide +kernel) rfl hL hK hF
    · refine RK.of (RN.icf (cd := .lt) (off := 6) (tgt := 16) (by decide +kernel) (mif_ltn hb)) ?_
      refine RK.of (RN.blk (ops := [(13, .bipush (-2))]) (pc' := 15) (lv' := [(0, .inr (.inr 0)), (1, .inl a1)]) (st' := [.inl (-2)]) (h' := h) (cs := []) (by decide +kernel) rfl trivial) ?_
      exact RK.iR (by decide +kernel) rfl hL hK hF
noncomputable def GX11_hole (a1 : Int) (a2 : Int) (h : MH) : Option (Int × MH) :=
  (bd (GX8_hasHole 21 a1 h) (fun x2 h1 =>
   (if x2 = 0 then
    some ((-1), h1)
   else
    (if a2 = 0 then
     gd [IB a1 6] (
      some ((m_rd h1 23 a1), h1))
    else
    (if a2 = 1 then
     gd [IB a1 6] (
      some ((m_rd h1 38 a1), h1))
    else
    (if a2 = 2 then
     gd [IB a1 6] (
      some ((m_rd h1 39 a1), h1))
    else
     some ((-1), h1)))))))
theorem DX11_hole {d : Nat} {a1 : Int} {a2 : Int} {h : MH} {r : Int × MH} (hL : LR h) (hF : GX11_hole a1 a2 h = some r) : RN xs L iX11_hole (d + 1) 0 (lvE 0 [.inr (.inr 0), .inl a1, .inl a2]) [] h (RIo r) ∧ LR r.2 ∧ KD h r.2 := by
  unfold GX11_hole at hF
  have hK : KD h h := KD.rf
  show RK xs L iX11_hole (d + 1) 0 (lvE 0 [.inr (.inr 0), .inl a1, .inl a2]) [] h (RIo r) h r.2
  refine RK.of (RN.blk (ops := [(0, .aload_n 0)]) (pc' := 1) (lv' := [(0, .inr (.inr 0)), (1, .inl a1), (2, .inl a2)]) (st' := [.inr (.inr 0)]) (h' := h) (cs := []) (by decide +kernel) rfl trivial) ?_
  refine RK.of (RN.gr (i := 41) (ci := 11) (k := 5) (fn := true) (v := 20) (by decide +kernel) rfl (TO.gk (o_0 hL)) (hL.fo (v := 20) 5 2 (o_0 hL) rfl (by decide) rfl).1) ?_
  refine RK.of (RN.gr (i := 130) (ci := 2) (k := 0) (fn := true) (v := 21) (by decide +kernel) rfl (TO.gk (o_20 hL)) (hL.fo (v := 21) 0 8 (o_20 hL) rfl (by decide) rfl).1) ?_
  refine RK.of (RN.blk (ops := [(7, .iload_n 1)]) (pc' := 8) (lv' := [(0, .inr (.inr 0)), (1, .inl a1), (2, .inl a2)]) (st' := [.inl a1, .inr (.inr 21)]) (h' := h) (cs := []) (by decide +kernel) rfl trivial) ?_
  obtain ⟨x2, h1, hG, hF⟩ := bd_of hF
  have hq := rcv_ok (as := [.inl a1]) (TO.gk (o_21 hL))
  obtain ⟨hN, hL, hQ⟩ := DX8_hasHole (d := d) hL (o_21 hL) hG
  refine RK.of (RN.cv (i := 131) (k := 81) (q2 := iX8_hasHole) (as := [.inr (.inr 21), .inl a1]) (r := []) (v := some (.inl x2)) (h1 := h1) (by decide +kernel) rfl rfl rfl rfl rfl hq hN) ?_
  have hK := hK.tr hQ
  rcases it_of hF with ⟨hb, hF⟩ | ⟨hb, hF⟩
  · refine RK.of (RN.iff (cd := .ne) (off := 5) (tgt := 16) (by decide +kernel) (mif_nen hb)) ?_
    refine RK.of (RN.blk (ops := [(14, .iconst (-1))]) (pc' := 15) (lv' := [(0, .inr (.inr 0)), (1, .inl a1), (2, .inl a2)]) (st' := [.inl (-1)]) (h' := h1) (cs := []) (by decide +kernel) rfl trivial) ?_
    exact RK.iR (by decide +kernel) rfl hL hK hF
  · refine RK.of (RN.ift (cd := .ne) (off := 5) (tgt := 16) (by decide +kernel) (mif_ne hb)) ?_
    refine RK.of (RN.blk (ops := [(16, .iload_n 2)]) (pc' := 17) (lv' := [(0, .inr (.inr 0)), (1, .inl a1), (2, .inl a2)]) (st' := [.inl a2]) (h' := h1) (cs := []) (by decide +kernel) rfl trivial) ?_
    rcases it_of hF with ⟨hb0, hF⟩ | ⟨hb0, hF⟩
    · refine RK.of (fun k9 => RN.tsw (dflt := 66) (lo := 0) (hi := 2) (offs := #[27, 40, 53]) (by decide +kernel) (RN.sth hb0 (tgt := 44) rfl k9)) ?_
      refine RK.of (RN.blk (ops := [(44, .aload_n 0)]) (pc' := 45) (lv' := [(0, .inr (.inr 0)), (1, .inl a1), (2, .inl a2)]) (st' := [.inr (.inr 0)]) (h' := h1) (cs := []) (by decide +kernel) rfl trivial) ?_
      refine RK.of (RN.gr (i := 41) (ci := 11) (k := 5) (fn := true) (v := 20) (by decide +kernel) rfl (TO.gk (o_0 hL)) (hL.fo (v := 20) 5 2 (o_0 hL) rfl (by decide) rfl).1) ?_
      refine RK.of (RN.gr (i := 130) (ci := 2) (k := 0) (fn := true) (v := 21) (by decide +kernel) rfl (TO.gk (o_20 hL)) (hL.fo (v := 21) 0 8 (o_20 hL) rfl (by decide) rfl).1) ?_
      refine RK.of (RN.gr (i := 137) (ci := 8) (k := 5) (fn := true) (v := 23) (by decide +kernel) rfl (TO.gk (o_21 hL)) (hL.fa (v := 23) 5 1 6 (o_21 hL) rfl (by decide) rfl (by decide)).1) ?_
      obtain ⟨hc, hF⟩ := gd_of hF
      refine RK.of (RN.blk (ops := [(54, .iload_n 1), (55, .iaload)]) (pc' := 56) (lv' := [(0, .inr (.inr 0)), (1, .inl a1), (2, .inl a2)]) (st' := [.inl (m_rd h1 23 a1)]) (h' := h1) (cs := [GI h1 23 1 a1]) (by decide +kernel) rfl ⟨(a_23 hL).gi hc.1.1 hc.1.2, trivial⟩) ?_
      exact RK.iR (by decide +kernel) rfl hL hK hF
    rcases it_of hF with ⟨hb1, hF⟩ | ⟨hb1, hF⟩
    · refine RK.of (fun k9 => RN.tsw (dflt := 66) (lo := 0) (hi := 2) (offs := #[27, 40, 53]) (by decide +kernel) (RN.stm hb0 (RN.sth hb1 (tgt := 57) rfl k9))) ?_
      refine RK.of (RN.blk (ops := [(57, .aload_n 0)]) (pc' := 58) (lv' := [(0, .inr (.inr 0)), (1, .inl a1), (2, .inl a2)]) (st' := [.inr (.inr 0)]) (h' := h1) (cs := []) (by decide +kernel) rfl trivial) ?_
      refine RK.of (RN.gr (i := 41) (ci := 11) (k := 5) (fn := true) (v := 20) (by decide +kernel) rfl (TO.gk (o_0 hL)) (hL.fo (v := 20) 5 2 (o_0 hL) rfl (by decide) rfl).1) ?_
      refine RK.of (RN.gr (i := 110) (ci := 2) (k := 2) (fn := true) (v := 32) (by decide +kernel) rfl (TO.gk (o_20 hL)) (hL.fo (v := 32) 2 10 (o_20 hL) rfl (by decide) rfl).1) ?_
      refine RK.of (RN.gr (i := 141) (ci := 10) (k := 3) (fn := true) (v := 38) (by decide +kernel) rfl (TO.gk (o_32 hL)) (hL.fa (v := 38) 3 1 6 (o_32 hL) rfl (by decide) rfl (by decide)).1) ?_
      obtain ⟨hc, hF⟩ := gd_of hF
      refine RK.of (RN.blk (ops := [(67, .iload_n 1), (68, .iaload)]) (pc' := 69) (lv' := [(0, .inr (.inr 0)), (1, .inl a1), (2, .inl a2)]) (st' := [.inl (m_rd h1 38 a1)]) (h' := h1) (cs := [GI h1 38 1 a1]) (by decide +kernel) rfl ⟨(a_38 hL).gi hc.1.1 hc.1.2, trivial⟩) ?_
      exact RK.iR (by decide +kernel) rfl hL hK hF
    rcases it_of hF with ⟨hb2, hF⟩ | ⟨hb2, hF⟩
    · refine RK.of (fun k9 => RN.tsw (dflt := 66) (lo := 0) (hi := 2) (offs := #[27, 40, 53]) (by decide +kernel) (RN.stm hb0 (RN.stm hb1 (RN.sth hb2 (tgt := 70) rfl k9)))) ?_
      refine RK.of (RN.blk (ops := [(70, .aload_n 0)]) (pc' := 71) (lv' := [(0, .inr (.inr 0)), (1, .inl a1), (2, .inl a2)]) (st' := [.inr (.inr 0)]) (h' := h1) (cs := []) (by decide +kernel) rfl trivial) ?_
      refine RK.of (RN.gr (i := 41) (ci := 11) (k := 5) (fn := true) (v := 20) (by decide +kernel) rfl (TO.gk (o_0 hL)) (hL.fo (v := 20) 5 2 (o_0 hL) rfl (by decide) rfl).1) ?_
      refine RK.of (RN.gr (i := 110) (ci := 2) (k := 2) (fn := true) (v := 32) (by decide +kernel) rfl (TO.gk (o_20 hL)) (hL.fo (v := 32) 2 10 (o_20 hL) rfl (by decide) rfl).1) ?_
      refine RK.of (RN.gr (i := 144) (ci := 10) (k := 4) (fn := true) (v := 39) (by decide +kernel) rfl (TO.gk (o_32 hL)) (hL.fa (v := 39) 4 1 6 (o_32 hL) rfl (by decide) rfl (by decide)).1) ?_
      obtain ⟨hc, hF⟩ := gd_of hF
      refine RK.of (RN.blk (ops := [(80, .iload_n 1), (81, .iaload)]) (pc' := 82) (lv' := [(0, .inr (.inr 0)), (1, .inl a1), (2, .inl a2)]) (st' := [.inl (m_rd h1 39 a1)]) (h' := h1) (cs := [GI h1 39 1 a1]) (by decide +kernel) rfl ⟨(a_39 hL).gi hc.1.1 hc.1.2, trivial⟩) ?_
      exact RK.iR (by decide +kernel) rfl hL hK hF
    refine RK.of (fun k9 => RN.tsw (dflt := 66) (lo := 0) (hi := 2) (offs := #[27, 40, 53]) (by decide +kernel) (RN.stm hb0 (RN.stm hb1 (RN.stm hb2 (RN.std (tgt := 83) rfl k9))))) ?_
    refine RK.of (RN.blk (ops := [(83, .iconst (-1))]) (pc' := 84) (lv' := [(0, .inr (.inr 0)), (1, .inl a1), (2, .inl a2)]) (st' := [.inl (-1)]) (h' := h1) (cs := []) (by decide +kernel) rfl trivial) ?_
    exact RK.iR (by decide +kernel) rfl hL hK hF
noncomputable def GX11_entry (a1 : Int) (a2 : Int) (h : MH) : Option (Int × MH) :=
  (bd (GX4_has 33 a1 h) (fun x2 h1 =>
   (if x2 = 0 then
    some ((-1), h1)
   else
    (if a2 = 0 then
     gd [IB a1 12] (
      some ((m_rd h1 34 a1), h1))
    else
    (if a2 = 1 then
     gd [IB a1 12] (
      some ((m_rd h1 35 a1), h1))
    else
    (if a2 = 2 then
     gd [IB a1 12] (
      some ((m_rd h1 36 a1), h1))
    else
     some ((-1), h1)))))))
theorem DX11_entry {d : Nat} {a1 : Int} {a2 : Int} {h : MH} {r : Int × MH} (hL : LR h) (hF : GX11_entry a1 a2 h = some r) : RN xs L iX11_entry (d + 1) 0 (lvE 0 [.inr (.inr 0), .inl a1, .inl a2]) [] h (RIo r) ∧ LR r.2 ∧ KD h r.2 := by
  unfold GX11_entry at hF
  have hK : KD h h := KD.rf
  show RK xs L iX11_entry (d + 1) 0 (lvE 0 [.inr (.inr 0), .inl a1, .inl a2]) [] h (RIo r) h r.2
  refine RK.of (RN.blk (ops := [(0, .aload_n 0)]) (pc' := 1) (lv' := [(0, .inr (.inr 0)), (1, .inl a1), (2, .inl a2)]) (st' := [.inr (.inr 0)]) (h' := h) (cs := []) (by decide +kernel) rfl trivial) ?_
  refine RK.of (RN.gr (i := 41) (ci := 11) (k := 5) (fn := true) (v := 20) (by decide +kernel) rfl (TO.gk (o_0 hL)) (hL.fo (v := 20) 5 2 (o_0 hL) rfl (by decide) rfl).1) ?_
  refine RK.of (RN.gr (i := 110) (ci := 2) (k := 2) (fn := true) (v := 32) (by decide +kernel) rfl (TO.gk (o_20 hL)) (hL.fo (v := 32) 2 10 (o_20 hL) rfl (by decide) rfl).1) ?_
  refine RK.of (RN.gr (i := 113) (ci := 10) (k := 0) (fn := true) (v := 33) (by decide +kernel) rfl (TO.gk (o_32 hL)) (hL.fo (v := 33) 0 4 (o_32 hL) rfl (by decide) rfl).1) ?_
  refine RK.of (RN.blk (ops := [(10, .astore_n 3), (11, .aload_n 3), (12, .iload_n 1)]) (pc' := 13) (lv' := [(3, .inr (.inr 33)), (0, .inr (.inr 0)), (1, .inl a1), (2, .inl a2)]) (st' := [.inl a1, .inr (.inr 33)]) (h' := h) (cs := []) (by decide +kernel) rfl trivial) ?_
  obtain ⟨x2, h1, hG, hF⟩ := bd_of hF
  have hq := rcv_ok (as := [.inl a1]) (TO.gk (o_33 hL))
  obtain ⟨hN, hL, hQ⟩ := DX4_has (d := d) hL (o_33 hL) hG
  refine RK.of (RN.cv (i := 147) (k := 46) (q2 := iX4_has) (as := [.inr (.inr 33), .inl a1]) (r := []) (v := some (.inl x2)) (h1 := h1) (by decide +kernel) rfl rfl rfl rfl rfl hq hN) ?_
  have hK := hK.tr hQ
  rcases it_of hF with ⟨hb, hF⟩ | ⟨hb, hF⟩
  · refine RK.of (RN.iff (cd := .ne) (off := 5) (tgt := 21) (by decide +kernel) (mif_nen hb)) ?_
    refine RK.of (RN.blk (ops := [(19, .iconst (-1))]) (pc' := 20) (lv' := [(3, .inr (.inr 33)), (0, .inr (.inr 0)), (1, .inl a1), (2, .inl a2)]) (st' := [.inl (-1)]) (h' := h1) (cs := []) (by decide +kernel) rfl trivial) ?_
    exact RK.iR (by decide +kernel) rfl hL hK hF
  · refine RK.of (RN.ift (cd := .ne) (off := 5) (tgt := 21) (by decide +kernel) (mif_ne hb)) ?_
    refine RK.of (RN.blk (ops := [(21, .iload_n 2)]) (pc' := 22) (lv' := [(3, .inr (.inr 33)), (0, .inr (.inr 0)), (1, .inl a1), (2, .inl a2)]) (st' := [.inl a2]) (h' := h1) (cs := []) (by decide +kernel) rfl trivial) ?_
    rcases it_of hF with ⟨hb0, hF⟩ | ⟨hb0, hF⟩
    · refine RK.of (fun k9 => RN.tsw (dflt := 47) (lo := 0) (hi := 2) (offs := #[26, 33, 40]) (by decide +kernel) (RN.sth hb0 (tgt := 48) rfl k9)) ?_
      refine RK.of (RN.blk (ops := [(48, .aload_n 3)]) (pc' := 49) (lv' := [(3, .inr (.inr 33)), (0, .inr (.inr 0)), (1, .inl a1), (2, .inl a2)]) (st' := [.inr (.inr 33)]) (h' := h1) (cs := []) (by decide +kernel) rfl trivial) ?_
      refine RK.of (RN.gr (i := 150) (ci := 4) (k := 1) (fn := true) (v := 34) (by decide +kernel) rfl (TO.gk (o_33 hL)) (hL.fa (v := 34) 1 1 12 (o_33 hL) rfl (by decide) rfl (by decide)).1) ?_
      obtain ⟨hc, hF⟩ := gd_of hF
      refine RK.of (RN.blk (ops := [(52, .iload_n 1), (53, .iaload)]) (pc' := 54) (lv' := [(3, .inr (.inr 33)), (0, .inr (.inr 0)), (1, .inl a1), (2, .inl a2)]) (st' := [.inl (m_rd h1 34 a1)]) (h' := h1) (cs := [GI h1 34 1 a1]) (by decide +kernel) rfl ⟨(a_34 hL).gi hc.1.1 hc.1.2, trivial⟩) ?_
      exact RK.iR (by decide +kernel) rfl hL hK hF
    rcases it_of hF with ⟨hb1, hF⟩ | ⟨hb1, hF⟩
    · refine RK.of (fun k9 => RN.tsw (dflt := 47) (lo := 0) (hi := 2) (offs := #[26, 33, 40]) (by decide +kernel) (RN.stm hb0 (RN.sth hb1 (tgt := 55) rfl k9))) ?_
      refine RK.of (RN.blk (ops := [(55, .aload_n 3)]) (pc' := 56) (lv' := [(3, .inr (.inr 33)), (0, .inr (.inr 0)), (1, .inl a1), (2, .inl a2)]) (st' := [.inr (.inr 33)]) (h' := h1) (cs := []) (by decide +kernel) rfl trivial) ?_
      refine RK.of (RN.gr (i := 153) (ci := 4) (k := 2) (fn := true) (v := 35) (by decide +kernel) rfl (TO.gk (o_33 hL)) (hL.fa (v := 35) 2 1 12 (o_33 hL) rfl (by decide) rfl (by decide)).1) ?_
      obtain ⟨hc, hF⟩ := gd_of hF
      refine RK.of (RN.blk (ops := [(59, .iload_n 1), (60, .iaload)]) (pc' := 61) (lv' := [(3, .inr (.inr 33)), (0, .inr (.inr 0)), (1, .inl a1), (2, .inl a2)]) (st' := [.inl (m_rd h1 35 a1)]) (h' := h1) (cs := [GI h1 35 1 a1]) (by decide +kernel) rfl ⟨(a_35 hL).gi hc.1.1 hc.1.2, trivial⟩) ?_
      exact RK.iR (by decide +kernel) rfl hL hK hF
    rcases it_of hF with ⟨hb2, hF⟩ | ⟨hb2, hF⟩
    · refine RK.of (fun k9 => RN.tsw (dflt := 47) (lo := 0) (hi := 2) (offs := #[26, 33, 40]) (by decide +kernel) (RN.stm hb0 (RN.stm hb1 (RN.sth hb2 (tgt := 62) rfl k9)))) ?_
      refine RK.of (RN.blk (ops := [(62, .aload_n 3)]) (pc' := 63) (lv' := [(3, .inr (.inr 33)), (0, .inr (.inr 0)), (1, .inl a1), (2, .inl a2)]) (st' := [.inr (.inr 33)]) (h' := h1) (cs := []) (by decide +kernel) rfl trivial) ?_
      refine RK.of (RN.gr (i := 156) (ci := 4) (k := 3) (fn := true) (v := 36) (by decide +kernel) rfl (TO.gk (o_33 hL)) (hL.fa (v := 36) 3 1 12 (o_33 hL) rfl (by decide) rfl (by decide)).1) ?_
      obtain ⟨hc, hF⟩ := gd_of hF
      refine RK.of (RN.blk (ops := [(66, .iload_n 1), (67, .iaload)]) (pc' := 68) (lv' := [(3, .inr (.inr 33)), (0, .inr (.inr 0)), (1, .inl a1), (2, .inl a2)]) (st' := [.inl (m_rd h1 36 a1)]) (h' := h1) (cs := [GI h1 36 1 a1]) (by decide +kernel) rfl ⟨(a_36 hL).gi hc.1.1 hc.1.2, trivial⟩) ?_
      exact RK.iR (by decide +kernel) rfl hL hK hF
    refine RK.of (fun k9 => RN.tsw (dflt := 47) (lo := 0) (hi := 2) (offs := #[26, 33, 40]) (by decide +kernel) (RN.stm hb0 (RN.stm hb1 (RN.stm hb2 (RN.std (tgt := 69) rfl k9))))) ?_
    refine RK.of (RN.blk (ops := [(69, .iconst (-1))]) (pc' := 70) (lv' := [(3, .inr (.inr 33)), (0, .inr (.inr 0)), (1, .inl a1), (2, .inl a2)]) (st' := [.inl (-1)]) (h' := h1) (cs := []) (by decide +kernel) rfl trivial) ?_
    exact RK.iR (by decide +kernel) rfl hL hK hF
noncomputable def GX11_waits (a1 : Int) (h : MH) : Option (Int × MH) :=
  (if a1 < 0 then
   some ((-1), h)
  else
   (if a1 < (m_rd h 32 1) then
    gd [IB a1 20] (
     some ((m_rd h 37 a1), h))
   else
    some ((-1), h)))
theorem DX11_waits {d : Nat} {a1 : Int} {h : MH} {r : Int × MH} (hL : LR h) (hF : GX11_waits a1 h = some r) : RN xs L iX11_waits (d) 0 (lvE 0 [.inr (.inr 0), .inl a1]) [] h (RIo r) ∧ LR r.2 ∧ KD h r.2 := by
  unfold GX11_waits at hF
  have hK : KD h h := KD.rf
  show RK xs L iX11_waits (d) 0 (lvE 0 [.inr (.inr 0), .inl a1]) [] h (RIo r) h r.2
  refine RK.of (RN.blk (ops := [(0, .iload_n 1)]) (pc' := 1) (lv' := [(0, .inr (.inr 0)), (1, .inl a1)]) (st' := [.inl a1]) (h' := h) (cs := []) (by decide +kernel) rfl trivial) ?_
  rcases it_of hF with ⟨hb, hF⟩ | ⟨hb, hF⟩
  · refine RK.of (RN.ift (cd := .lt) (off := 17) (tgt := 18) (by decide +kernel) (mif_lt hb)) ?_
    refine RK.of (RN.blk (ops := [(18, .iconst (-1))]) (pc' := 19) (lv' := [(0, .inr (.inr 0)), (1, .inl a1)]) (st' := [.inl (-1)]) (h' := h) (cs := []) (by decide +kernel) rfl trivial) ?_
    exact RK.iR (by decide +kernel) rfl hL hK hF
  · refine RK.of (RN.iff (cd := .lt) (off := 17) (tgt := 18) (by decide +kernel) (mif_ltn hb)) ?_
    refine RK.of (RN.blk (ops := [(4, .iload_n 1), (5, .aload_n 0)]) (pc' := 6) (lv' := [(0, .inr (.inr 0)), (1, .inl a1)]) (st' := [.inr (.inr 0), .inl a1]) (h' := h) (cs := []) (by decide +kernel) rfl trivial) ?_
    refine RK.of (RN.gr (i := 41) (ci := 11) (k := 5) (fn := true) (v := 20) (by decide +kernel) rfl (TO.gk (o_0 hL)) (hL.fo (v := 20) 5 2 (o_0 hL) rfl (by decide) rfl).1) ?_
    refine RK.of (RN.gr (i := 110) (ci := 2) (k := 2) (fn := true) (v := 32) (by decide +kernel) rfl (TO.gk (o_20 hL)) (hL.fo (v := 32) 2 10 (o_20 hL) rfl (by decide) rfl).1) ?_
    refine RK.of (RN.blk (ops := [(12, .getfield 159)]) (pc' := 15) (lv' := [(0, .inr (.inr 0)), (1, .inl a1)]) (st' := [.inl (m_rd h 32 1), .inl a1]) (h' := h) (cs := [GK h 32 10]) (by decide +kernel) rfl ⟨(o_32 hL).gk, trivial⟩) ?_
    rcases it_of hF with ⟨hb, hF⟩ | ⟨hb, hF⟩
    · refine RK.of (RN.ict (cd := .lt) (off := 5) (tgt := 20) (by decide +kernel) (mif_lt hb)) ?_
      refine RK.of (RN.blk (ops := [(20, .aload_n 0)]) (pc' := 21) (lv' := [(0, .inr (.inr 0)), (1, .inl a1)]) (st' := [.inr (.inr 0)]) (h' := h) (cs := []) (by decide +kernel) rfl trivial) ?_
      refine RK.of (RN.gr (i := 41) (ci := 11) (k := 5) (fn := true) (v := 20) (by decide +kernel) rfl (TO.gk (o_0 hL)) (hL.fo (v := 20) 5 2 (o_0 hL) rfl (by decide) rfl).1) ?_
      refine RK.of (RN.gr (i := 110) (ci := 2) (k := 2) (fn := true) (v := 32) (by decide +kernel) rfl (TO.gk (o_20 hL)) (hL.fo (v := 32) 2 10 (o_20 hL) rfl (by decide) rfl).1) ?_
      refine RK.of (RN.gr (i := 162) (ci := 10) (k := 2) (fn := true) (v := 37) (by decide +kernel) rfl (TO.gk (o_32 hL)) (hL.fa (v := 37) 2 1 20 (o_32 hL) rfl (by decide) rfl (by decide)).1) ?_
      obtain ⟨hc, hF⟩ := gd_of hF
      refine RK.of (RN.blk (ops := [(30, .iload_n 1), (31, .iaload)]) (pc' := 32) (lv' := [(0, .inr (.inr 0)), (1, .inl a1)]) (st' := [.inl (m_rd h 37 a1)]) (h' := h) (cs := [GI h 37 1 a1]) (by decide +kernel) rfl ⟨(a_37 hL).gi hc.1.1 hc.1.2, trivial⟩) ?_
      exact RK.iR (by decide +kernel) rfl hL hK hF
    · refine RK.of (RN.icf (cd := .lt) (off := 5) (tgt := 20) (by decide +kernel) (mif_ltn hb)) ?_
      refine RK.of (RN.blk (ops := [(18, .iconst (-1))]) (pc' := 19) (lv' := [(0, .inr (.inr 0)), (1, .inl a1)]) (st' := [.inl (-1)]) (h' := h) (cs := []) (by decide +kernel) rfl trivial) ?_
      exact RK.iR (by decide +kernel) rfl hL hK hF
noncomputable def GX11_count (a1 : Int) (h : MH) : Option (Int × MH) :=
  (if a1 = 0 then
   some ((m_rd h 21 0), h)
  else
  (if a1 = 1 then
   some ((m_rd h 21 1), h)
  else
  (if a1 = 2 then
   some ((m_rd h 21 2), h)
  else
  (if a1 = 3 then
   some ((m_rd h 33 0), h)
  else
  (if a1 = 4 then
   some ((m_rd h 32 1), h)
  else
  (if a1 = 5 then
   some ((m_rd h 0 4), h)
  else
  (if a1 = 6 then
   some ((m_rd h 20 3), h)
  else
  (if a1 = 7 then
   some ((m_rd h 32 6), h)
  else
  (if a1 = 8 then
   (bd (GX10_lyingInAll 32 h) (fun x2 h1 =>
    some (x2, h1)))
  else
  (if a1 = 9 then
   (bd (GX10_bagsOfAll 32 h) (fun x4 h3 =>
    some (x4, h3)))
  else
  (if a1 = 10 then
   some ((m_rd h 32 5), h)
  else
  (if a1 = 11 then
   some ((m_rd h 20 5), h)
  else
  (if a1 = 12 then
   some ((m_rd h 0 10), h)
  else
  (if a1 = 13 then
   some ((m_rd h 20 4), h)
  else
  (if a1 = 14 then
   some ((m_rd h 1 1), h)
  else
   some ((-1), h))))))))))))))))
theorem DX11_count {d : Nat} {a1 : Int} {h : MH} {r : Int × MH} (hL : LR h) (hF : GX11_count a1 h = some r) : RN xs L iX11_count (d + 2) 0 (lvE 0 [.inr (.inr 0), .inl a1]) [] h (RIo r) ∧ LR r.2 ∧ KD h r.2 := by
  unfold GX11_count at hF
  have hK : KD h h := KD.rf
  show RK xs L iX11_count (d + 2) 0 (lvE 0 [.inr (.inr 0), .inl a1]) [] h (RIo r) h r.2
  refine RK.of (RN.blk (ops := [(0, .iload_n 1)]) (pc' := 1) (lv' := [(0, .inr (.inr 0)), (1, .inl a1)]) (st' := [.inl a1]) (h' := h) (cs := []) (by decide +kernel) rfl trivial) ?_
  rcases it_of hF with ⟨hb0, hF⟩ | ⟨hb0, hF⟩
  · refine RK.of (fun k9 => RN.tsw (dflt := 219) (lo := 0) (hi := 14) (offs := #[75, 86, 97, 108, 122, 133, 138, 146, 157, 168, 179, 190, 198, 203, 211]) (by decide +kernel) (RN.sth hb0 (tgt := 76) rfl k9)) ?_
    refine RK.of (RN.blk (ops := [(76, .aload_n 0)]) (pc' := 77) (lv' := [(0, .inr (.inr 0)), (1, .inl a1)]) (st' := [.inr (.inr 0)]) (h' := h) (cs := []) (by decide +kernel) rfl trivial) ?_
    refine RK.of (RN.gr (i := 41) (ci := 11) (k := 5) (fn := true) (v := 20) (by decide +kernel) rfl (TO.gk (o_0 hL)) (hL.fo (v := 20) 5 2 (o_0 hL) rfl (by decide) rfl).1) ?_
    refine RK.of (RN.gr (i := 130) (ci := 2) (k := 0) (fn := true) (v := 21) (by decide +kernel) rfl (TO.gk (o_20 hL)) (hL.fo (v := 21) 0 8 (o_20 hL) rfl (by decide) rfl).1) ?_
    refine RK.of (RN.blk (ops := [(83, .getfield 165)]) (pc' := 86) (lv' := [(0, .inr (.inr 0)), (1, .inl a1)]) (st' := [.inl (m_rd h 21 0)]) (h' := h) (cs := [GK h 21 8]) (by decide +kernel) rfl ⟨(o_21 hL).gk, trivial⟩) ?_
    exact RK.iR (by decide +kernel) rfl hL hK hF
  rcases it_of hF with ⟨hb1, hF⟩ | ⟨hb1, hF⟩
  · refine RK.of (fun k9 => RN.tsw (dflt := 219) (lo := 0) (hi := 14) (offs := #[75, 86, 97, 108, 122, 133, 138, 146, 157, 168, 179, 190, 198, 203, 211]) (by decide +kernel) (RN.stm hb0 (RN.sth hb1 (tgt := 87) rfl k9))) ?_
    refine RK.of (RN.blk (ops := [(87, .aload_n 0)]) (pc' := 88) (lv' := [(0, .inr (.inr 0)), (1, .inl a1)]) (st' := [.inr (.inr 0)]) (h' := h) (cs := []) (by decide +kernel) rfl trivial) ?_
    refine RK.of (RN.gr (i := 41) (ci := 11) (k := 5) (fn := true) (v := 20) (by decide +kernel) rfl (TO.gk (o_0 hL)) (hL.fo (v := 20) 5 2 (o_0 hL) rfl (by decide) rfl).1) ?_
    refine RK.of (RN.gr (i := 130) (ci := 2) (k := 0) (fn := true) (v := 21) (by decide +kernel) rfl (TO.gk (o_20 hL)) (hL.fo (v := 21) 0 8 (o_20 hL) rfl (by decide) rfl).1) ?_
    refine RK.of (RN.blk (ops := [(94, .getfield 168)]) (pc' := 97) (lv' := [(0, .inr (.inr 0)), (1, .inl a1)]) (st' := [.inl (m_rd h 21 1)]) (h' := h) (cs := [GK h 21 8]) (by decide +kernel) rfl ⟨(o_21 hL).gk, trivial⟩) ?_
    exact RK.iR (by decide +kernel) rfl hL hK hF
  rcases it_of hF with ⟨hb2, hF⟩ | ⟨hb2, hF⟩
  · refine RK.of (fun k9 => RN.tsw (dflt := 219) (lo := 0) (hi := 14) (offs := #[75, 86, 97, 108, 122, 133, 138, 146, 157, 168, 179, 190, 198, 203, 211]) (by decide +kernel) (RN.stm hb0 (RN.stm hb1 (RN.sth hb2 (tgt := 98) rfl k9)))) ?_
    refine RK.of (RN.blk (ops := [(98, .aload_n 0)]) (pc' := 99) (lv' := [(0, .inr (.inr 0)), (1, .inl a1)]) (st' := [.inr (.inr 0)]) (h' := h) (cs := []) (by decide +kernel) rfl trivial) ?_
    refine RK.of (RN.gr (i := 41) (ci := 11) (k := 5) (fn := true) (v := 20) (by decide +kernel) rfl (TO.gk (o_0 hL)) (hL.fo (v := 20) 5 2 (o_0 hL) rfl (by decide) rfl).1) ?_
    refine RK.of (RN.gr (i := 130) (ci := 2) (k := 0) (fn := true) (v := 21) (by decide +kernel) rfl (TO.gk (o_20 hL)) (hL.fo (v := 21) 0 8 (o_20 hL) rfl (by decide) rfl).1) ?_
    refine RK.of (RN.blk (ops := [(105, .getfield 170)]) (pc' := 108) (lv' := [(0, .inr (.inr 0)), (1, .inl a1)]) (st' := [.inl (m_rd h 21 2)]) (h' := h) (cs := [GK h 21 8]) (by decide +kernel) rfl ⟨(o_21 hL).gk, trivial⟩) ?_
    exact RK.iR (by decide +kernel) rfl hL hK hF
  rcases it_of hF with ⟨hb3, hF⟩ | ⟨hb3, hF⟩
  · refine RK.of (fun k9 => RN.tsw (dflt := 219) (lo := 0) (hi := 14) (offs := #[75, 86, 97, 108, 122, 133, 138, 146, 157, 168, 179, 190, 198, 203, 211]) (by decide +kernel) (RN.stm hb0 (RN.stm hb1 (RN.stm hb2 (RN.sth hb3 (tgt := 109) rfl k9))))) ?_
    refine RK.of (RN.blk (ops := [(109, .aload_n 0)]) (pc' := 110) (lv' := [(0, .inr (.inr 0)), (1, .inl a1)]) (st' := [.inr (.inr 0)]) (h' := h) (cs := []) (by decide +kernel) rfl trivial) ?_
    refine RK.of (RN.gr (i := 41) (ci := 11) (k := 5) (fn := true) (v := 20) (by decide +kernel) rfl (TO.gk (o_0 hL)) (hL.fo (v := 20) 5 2 (o_0 hL) rfl (by decide) rfl).1) ?_
    refine RK.of (RN.gr (i := 110) (ci := 2) (k := 2) (fn := true) (v := 32) (by decide +kernel) rfl (TO.gk (o_20 hL)) (hL.fo (v := 32) 2 10 (o_20 hL) rfl (by decide) rfl).1) ?_
    refine RK.of (RN.gr (i := 113) (ci := 10) (k := 0) (fn := true) (v := 33) (by decide +kernel) rfl (TO.gk (o_32 hL)) (hL.fo (v := 33) 0 4 (o_32 hL) rfl (by decide) rfl).1) ?_
    refine RK.of (RN.blk (ops := [(119, .getfield 117)]) (pc' := 122) (lv' := [(0, .inr (.inr 0)), (1, .inl a1)]) (st' := [.inl (m_rd h 33 0)]) (h' := h) (cs := [GK h 33 4]) (by decide +kernel) rfl ⟨(o_33 hL).gk, trivial⟩) ?_
    exact RK.iR (by decide +kernel) rfl hL hK hF
  rcases it_of hF with ⟨hb4, hF⟩ | ⟨hb4, hF⟩
  · refine RK.of (fun k9 => RN.tsw (dflt := 219) (lo := 0) (hi := 14) (offs := #[75, 86, 97, 108, 122, 133, 138, 146, 157, 168, 179, 190, 198, 203, 211]) (by decide +kernel) (RN.stm hb0 (RN.stm hb1 (RN.stm hb2 (RN.stm hb3 (RN.sth hb4 (tgt := 123) rfl k9)))))) ?_
    refine RK.of (RN.blk (ops := [(123, .aload_n 0)]) (pc' := 124) (lv' := [(0, .inr (.inr 0)), (1, .inl a1)]) (st' := [.inr (.inr 0)]) (h' := h) (cs := []) (by decide +kernel) rfl trivial) ?_
    refine RK.of (RN.gr (i := 41) (ci := 11) (k := 5) (fn := true) (v := 20) (by decide +kernel) rfl (TO.gk (o_0 hL)) (hL.fo (v := 20) 5 2 (o_0 hL) rfl (by decide) rfl).1) ?_
    refine RK.of (RN.gr (i := 110) (ci := 2) (k := 2) (fn := true) (v := 32) (by decide +kernel) rfl (TO.gk (o_20 hL)) (hL.fo (v := 32) 2 10 (o_20 hL) rfl (by decide) rfl).1) ?_
    refine RK.of (RN.blk (ops := [(130, .getfield 159)]) (pc' := 133) (lv' := [(0, .inr (.inr 0)), (1, .inl a1)]) (st' := [.inl (m_rd h 32 1)]) (h' := h) (cs := [GK h 32 10]) (by decide +kernel) rfl ⟨(o_32 hL).gk, trivial⟩) ?_
    exact RK.iR (by decide +kernel) rfl hL hK hF
  rcases it_of hF with ⟨hb5, hF⟩ | ⟨hb5, hF⟩
  · refine RK.of (fun k9 => RN.tsw (dflt := 219) (lo := 0) (hi := 14) (offs := #[75, 86, 97, 108, 122, 133, 138, 146, 157, 168, 179, 190, 198, 203, 211]) (by decide +kernel) (RN.stm hb0 (RN.stm hb1 (RN.stm hb2 (RN.stm hb3 (RN.stm hb4 (RN.sth hb5 (tgt := 134) rfl k9))))))) ?_
    refine RK.of (RN.blk (ops := [(134, .aload_n 0), (135, .getfield 120)]) (pc' := 138) (lv' := [(0, .inr (.inr 0)), (1, .inl a1)]) (st' := [.inl (m_rd h 0 4)]) (h' := h) (cs := [GK h 0 11]) (by decide +kernel) rfl ⟨(o_0 hL).gk, trivial⟩) ?_
    exact RK.iR (by decide +kernel) rfl hL hK hF
  rcases it_of hF with ⟨hb6, hF⟩ | ⟨hb6, hF⟩
  · refine RK.of (fun k9 => RN.tsw (dflt := 219) (lo := 0) (hi := 14) (offs := #[75, 86, 97, 108, 122, 133, 138, 146, 157, 168, 179, 190, 198, 203, 211]) (by decide +kernel) (RN.stm hb0 (RN.stm hb1 (RN.stm hb2 (RN.stm hb3 (RN.stm hb4 (RN.stm hb5 (RN.sth hb6 (tgt := 139) rfl k9)))))))) ?_
    refine RK.of (RN.blk (ops := [(139, .aload_n 0)]) (pc' := 140) (lv' := [(0, .inr (.inr 0)), (1, .inl a1)]) (st' := [.inr (.inr 0)]) (h' := h) (cs := []) (by decide +kernel) rfl trivial) ?_
    refine RK.of (RN.gr (i := 41) (ci := 11) (k := 5) (fn := true) (v := 20) (by decide +kernel) rfl (TO.gk (o_0 hL)) (hL.fo (v := 20) 5 2 (o_0 hL) rfl (by decide) rfl).1) ?_
    refine RK.of (RN.blk (ops := [(143, .getfield 127)]) (pc' := 146) (lv' := [(0, .inr (.inr 0)), (1, .inl a1)]) (st' := [.inl (m_rd h 20 3)]) (h' := h) (cs := [GK h 20 2]) (by decide +kernel) rfl ⟨(o_20 hL).gk, trivial⟩) ?_
    exact RK.iR (by decide +kernel) rfl hL hK hF
  rcases it_of hF with ⟨hb7, hF⟩ | ⟨hb7, hF⟩
  · refine RK.of (fun k9 => RN.tsw (dflt := 219) (lo := 0) (hi := 14) (offs := #[75, 86, 97, 108, 122, 133, 138, 146, 157, 168, 179, 190, 198, 203, 211]) (by decide +kernel) (RN.stm hb0 (RN.stm hb1 (RN.stm hb2 (RN.stm hb3 (RN.stm hb4 (RN.stm hb5 (RN.stm hb6 (RN.sth hb7 (tgt := 147) rfl k9))))))))) ?_
    refine RK.of (RN.blk (ops := [(147, .aload_n 0)]) (pc' := 148) (lv' := [(0, .inr (.inr 0)), (1, .inl a1)]) (st' := [.inr (.inr 0)]) (h' := h) (cs := []) (by decide +kernel) rfl trivial) ?_
    refine RK.of (RN.gr (i := 41) (ci := 11) (k := 5) (fn := true) (v := 20) (by decide +kernel) rfl (TO.gk (o_0 hL)) (hL.fo (v := 20) 5 2 (o_0 hL) rfl (by decide) rfl).1) ?_
    refine RK.of (RN.gr (i := 110) (ci := 2) (k := 2) (fn := true) (v := 32) (by decide +kernel) rfl (TO.gk (o_20 hL)) (hL.fo (v := 32) 2 10 (o_20 hL) rfl (by decide) rfl).1) ?_
    refine RK.of (RN.blk (ops := [(154, .getfield 173)]) (pc' := 157) (lv' := [(0, .inr (.inr 0)), (1, .inl a1)]) (st' := [.inl (m_rd h 32 6)]) (h' := h) (cs := [GK h 32 10]) (by decide +kernel) rfl ⟨(o_32 hL).gk, trivial⟩) ?_
    exact RK.iR (by decide +kernel) rfl hL hK hF
  rcases it_of hF with ⟨hb8, hF⟩ | ⟨hb8, hF⟩
  · refine RK.of (fun k9 => RN.tsw (dflt := 219) (lo := 0) (hi := 14) (offs := #[75, 86, 97, 108, 122, 133, 138, 146, 157, 168, 179, 190, 198, 203, 211]) (by decide +kernel) (RN.stm hb0 (RN.stm hb1 (RN.stm hb2 (RN.stm hb3 (RN.stm hb4 (RN.stm hb5 (RN.stm hb6 (RN.stm hb7 (RN.sth hb8 (tgt := 158) rfl k9)))))))))) ?_
    refine RK.of (RN.blk (ops := [(158, .aload_n 0)]) (pc' := 159) (lv' := [(0, .inr (.inr 0)), (1, .inl a1)]) (st' := [.inr (.inr 0)]) (h' := h) (cs := []) (by decide +kernel) rfl trivial) ?_
    refine RK.of (RN.gr (i := 41) (ci := 11) (k := 5) (fn := true) (v := 20) (by decide +kernel) rfl (TO.gk (o_0 hL)) (hL.fo (v := 20) 5 2 (o_0 hL) rfl (by decide) rfl).1) ?_
    refine RK.of (RN.gr (i := 110) (ci := 2) (k := 2) (fn := true) (v := 32) (by decide +kernel) rfl (TO.gk (o_20 hL)) (hL.fo (v := 32) 2 10 (o_20 hL) rfl (by decide) rfl).1) ?_
    obtain ⟨x2, h1, hG, hF⟩ := bd_of hF
    have hq := rcv_ok (as := []) (TO.gk (o_32 hL))
    obtain ⟨hN, hL, hQ⟩ := DX10_lyingInAll (d := d) hL (o_32 hL) hG
    refine RK.of (RN.cv (i := 176) (k := 105) (q2 := iX10_lyingInAll) (as := [.inr (.inr 32)]) (r := []) (v := some (.inl x2)) (h1 := h1) (by decide +kernel) rfl rfl rfl rfl rfl hq hN) ?_
    have hK := hK.tr hQ
    exact RK.iR (by decide +kernel) rfl hL hK hF
  rcases it_of hF with ⟨hb9, hF⟩ | ⟨hb9, hF⟩
  · refine RK.of (fun k9 => RN.tsw (dflt := 219) (lo := 0) (hi := 14) (offs := #[75, 86, 97, 108, 122, 133, 138, 146, 157, 168, 179, 190, 198, 203, 211]) (by decide +kernel) (RN.stm hb0 (RN.stm hb1 (RN.stm hb2 (RN.stm hb3 (RN.stm hb4 (RN.stm hb5 (RN.stm hb6 (RN.stm hb7 (RN.stm hb8 (RN.sth hb9 (tgt := 169) rfl k9))))))))))) ?_
    refine RK.of (RN.blk (ops := [(169, .aload_n 0)]) (pc' := 170) (lv' := [(0, .inr (.inr 0)), (1, .inl a1)]) (st' := [.inr (.inr 0)]) (h' := h) (cs := []) (by decide +kernel) rfl trivial) ?_
    refine RK.of (RN.gr (i := 41) (ci := 11) (k := 5) (fn := true) (v := 20) (by decide +kernel) rfl (TO.gk (o_0 hL)) (hL.fo (v := 20) 5 2 (o_0 hL) rfl (by decide) rfl).1) ?_
    refine RK.of (RN.gr (i := 110) (ci := 2) (k := 2) (fn := true) (v := 32) (by decide +kernel) rfl (TO.gk (o_20 hL)) (hL.fo (v := 32) 2 10 (o_20 hL) rfl (by decide) rfl).1) ?_
    obtain ⟨x4, h3, hG, hF⟩ := bd_of hF
    have hq := rcv_ok (as := []) (TO.gk (o_32 hL))
    obtain ⟨hN, hL, hQ⟩ := DX10_bagsOfAll (d := d) hL (o_32 hL) hG
    refine RK.of (RN.cv (i := 179) (k := 106) (q2 := iX10_bagsOfAll) (as := [.inr (.inr 32)]) (r := []) (v := some (.inl x4)) (h1 := h3) (by decide +kernel) rfl rfl rfl rfl rfl hq hN) ?_
    have hK := hK.tr hQ
    exact RK.iR (by decide +kernel) rfl hL hK hF
  rcases it_of hF with ⟨hb10, hF⟩ | ⟨hb10, hF⟩
  · refine RK.of (fun k9 => RN.tsw (dflt := 219) (lo := 0) (hi := 14) (offs := #[75, 86, 97, 108, 122, 133, 138, 146, 157, 168, 179, 190, 198, 203, 211]) (by decide +kernel) (RN.stm hb0 (RN.stm hb1 (RN.stm hb2 (RN.stm hb3 (RN.stm hb4 (RN.stm hb5 (RN.stm hb6 (RN.stm hb7 (RN.stm hb8 (RN.stm hb9 (RN.sth hb10 (tgt := 180) rfl k9)))))))))))) ?_
    refine RK.of (RN.blk (ops := [(180, .aload_n 0)]) (pc' := 181) (lv' := [(0, .inr (.inr 0)), (1, .inl a1)]) (st' := [.inr (.inr 0)]) (h' := h) (cs := []) (by decide +kernel) rfl trivial) ?_
    refine RK.of (RN.gr (i := 41) (ci := 11) (k := 5) (fn := true) (v := 20) (by decide +kernel) rfl (TO.gk (o_0 hL)) (hL.fo (v := 20) 5 2 (o_0 hL) rfl (by decide) rfl).1) ?_
    refine RK.of (RN.gr (i := 110) (ci := 2) (k := 2) (fn := true) (v := 32) (by decide +kernel) rfl (TO.gk (o_20 hL)) (hL.fo (v := 32) 2 10 (o_20 hL) rfl (by decide) rfl).1) ?_
    refine RK.of (RN.blk (ops := [(187, .getfield 182)]) (pc' := 190) (lv' := [(0, .inr (.inr 0)), (1, .inl a1)]) (st' := [.inl (m_rd h 32 5)]) (h' := h) (cs := [GK h 32 10]) (by decide +kernel) rfl ⟨(o_32 hL).gk, trivial⟩) ?_
    exact RK.iR (by decide +kernel) rfl hL hK hF
  rcases it_of hF with ⟨hb11, hF⟩ | ⟨hb11, hF⟩
  · refine RK.of (fun k9 => RN.tsw (dflt := 219) (lo := 0) (hi := 14) (offs := #[75, 86, 97, 108, 122, 133, 138, 146, 157, 168, 179, 190, 198, 203, 211]) (by decide +kernel) (RN.stm hb0 (RN.stm hb1 (RN.stm hb2 (RN.stm hb3 (RN.stm hb4 (RN.stm hb5 (RN.stm hb6 (RN.stm hb7 (RN.stm hb8 (RN.stm hb9 (RN.stm hb10 (RN.sth hb11 (tgt := 191) rfl k9))))))))))))) ?_
    refine RK.of (RN.blk (ops := [(191, .aload_n 0)]) (pc' := 192) (lv' := [(0, .inr (.inr 0)), (1, .inl a1)]) (st' := [.inr (.inr 0)]) (h' := h) (cs := []) (by decide +kernel) rfl trivial) ?_
    refine RK.of (RN.gr (i := 41) (ci := 11) (k := 5) (fn := true) (v := 20) (by decide +kernel) rfl (TO.gk (o_0 hL)) (hL.fo (v := 20) 5 2 (o_0 hL) rfl (by decide) rfl).1) ?_
    refine RK.of (RN.blk (ops := [(195, .getfield 185)]) (pc' := 198) (lv' := [(0, .inr (.inr 0)), (1, .inl a1)]) (st' := [.inl (m_rd h 20 5)]) (h' := h) (cs := [GK h 20 2]) (by decide +kernel) rfl ⟨(o_20 hL).gk, trivial⟩) ?_
    exact RK.iR (by decide +kernel) rfl hL hK hF
  rcases it_of hF with ⟨hb12, hF⟩ | ⟨hb12, hF⟩
  · refine RK.of (fun k9 => RN.tsw (dflt := 219) (lo := 0) (hi := 14) (offs := #[75, 86, 97, 108, 122, 133, 138, 146, 157, 168, 179, 190, 198, 203, 211]) (by decide +kernel) (RN.stm hb0 (RN.stm hb1 (RN.stm hb2 (RN.stm hb3 (RN.stm hb4 (RN.stm hb5 (RN.stm hb6 (RN.stm hb7 (RN.stm hb8 (RN.stm hb9 (RN.stm hb10 (RN.stm hb11 (RN.sth hb12 (tgt := 199) rfl k9)))))))))))))) ?_
    refine RK.of (RN.blk (ops := [(199, .aload_n 0), (200, .getfield 107)]) (pc' := 203) (lv' := [(0, .inr (.inr 0)), (1, .inl a1)]) (st' := [.inl (m_rd h 0 10)]) (h' := h) (cs := [GK h 0 11]) (by decide +kernel) rfl ⟨(o_0 hL).gk, trivial⟩) ?_
    exact RK.iR (by decide +kernel) rfl hL hK hF
  rcases it_of hF with ⟨hb13, hF⟩ | ⟨hb13, hF⟩
  · refine RK.of (fun k9 => RN.tsw (dflt := 219) (lo := 0) (hi := 14) (offs := #[75, 86, 97, 108, 122, 133, 138, 146, 157, 168, 179, 190, 198, 203, 211]) (by decide +kernel) (RN.stm hb0 (RN.stm hb1 (RN.stm hb2 (RN.stm hb3 (RN.stm hb4 (RN.stm hb5 (RN.stm hb6 (RN.stm hb7 (RN.stm hb8 (RN.stm hb9 (RN.stm hb10 (RN.stm hb11 (RN.stm hb12 (RN.sth hb13 (tgt := 204) rfl k9))))))))))))))) ?_
    refine RK.of (RN.blk (ops := [(204, .aload_n 0)]) (pc' := 205) (lv' := [(0, .inr (.inr 0)), (1, .inl a1)]) (st' := [.inr (.inr 0)]) (h' := h) (cs := []) (by decide +kernel) rfl trivial) ?_
    refine RK.of (RN.gr (i := 41) (ci := 11) (k := 5) (fn := true) (v := 20) (by decide +kernel) rfl (TO.gk (o_0 hL)) (hL.fo (v := 20) 5 2 (o_0 hL) rfl (by decide) rfl).1) ?_
    refine RK.of (RN.blk (ops := [(208, .getfield 188)]) (pc' := 211) (lv' := [(0, .inr (.inr 0)), (1, .inl a1)]) (st' := [.inl (m_rd h 20 4)]) (h' := h) (cs := [GK h 20 2]) (by decide +kernel) rfl ⟨(o_20 hL).gk, trivial⟩) ?_
    exact RK.iR (by decide +kernel) rfl hL hK hF
  rcases it_of hF with ⟨hb14, hF⟩ | ⟨hb14, hF⟩
  · refine RK.of (fun k9 => RN.tsw (dflt := 219) (lo := 0) (hi := 14) (offs := #[75, 86, 97, 108, 122, 133, 138, 146, 157, 168, 179, 190, 198, 203, 211]) (by decide +kernel) (RN.stm hb0 (RN.stm hb1 (RN.stm hb2 (RN.stm hb3 (RN.stm hb4 (RN.stm hb5 (RN.stm hb6 (RN.stm hb7 (RN.stm hb8 (RN.stm hb9 (RN.stm hb10 (RN.stm hb11 (RN.stm hb12 (RN.stm hb13 (RN.sth hb14 (tgt := 212) rfl k9)))))))))))))))) ?_
    refine RK.of (RN.blk (ops := [(212, .aload_n 0)]) (pc' := 213) (lv' := [(0, .inr (.inr 0)), (1, .inl a1)]) (st' := [.inr (.inr 0)]) (h' := h) (cs := []) (by decide +kernel) rfl trivial) ?_
    refine RK.of (RN.gr (i := 10) (ci := 11) (k := 0) (fn := true) (v := 1) (by decide +kernel) rfl (TO.gk (o_0 hL)) (hL.fo (v := 1) 0 9 (o_0 hL) rfl (by decide) rfl).1) ?_
    refine RK.of (RN.blk (ops := [(216, .getfield 83)]) (pc' := 219) (lv' := [(0, .inr (.inr 0)), (1, .inl a1)]) (st' := [.inl (m_rd h 1 1)]) (h' := h) (cs := [GK h 1 9]) (by decide +kernel) rfl ⟨(o_1 hL).gk, trivial⟩) ?_
    exact RK.iR (by decide +kernel) rfl hL hK hF
  refine RK.of (fun k9 => RN.tsw (dflt := 219) (lo := 0) (hi := 14) (offs := #[75, 86, 97, 108, 122, 133, 138, 146, 157, 168, 179, 190, 198, 203, 211]) (by decide +kernel) (RN.stm hb0 (RN.stm hb1 (RN.stm hb2 (RN.stm hb3 (RN.stm hb4 (RN.stm hb5 (RN.stm hb6 (RN.stm hb7 (RN.stm hb8 (RN.stm hb9 (RN.stm hb10 (RN.stm hb11 (RN.stm hb12 (RN.stm hb13 (RN.stm hb14 (RN.std (tgt := 220) rfl k9))))))))))))))))) ?_
  refine RK.of (RN.blk (ops := [(220, .iconst (-1))]) (pc' := 221) (lv' := [(0, .inr (.inr 0)), (1, .inl a1)]) (st' := [.inl (-1)]) (h' := h) (cs := []) (by decide +kernel) rfl trivial) ?_
  exact RK.iR (by decide +kernel) rfl hL hK hF
noncomputable def GX11_hasFrame (h : MH) : Option (Int × MH) :=
  (if 0 < (m_rd h 21 3) then
   some (1, h)
  else
   some (0, h))
theorem DX11_hasFrame {d : Nat} {h : MH} {r : Int × MH} (hL : LR h) (hF : GX11_hasFrame h = some r) : RN xs L iX11_hasFrame (d) 0 (lvE 0 [.inr (.inr 0)]) [] h (RIo r) ∧ LR r.2 ∧ KD h r.2 := by
  unfold GX11_hasFrame at hF
  have hK : KD h h := KD.rf
  show RK xs L iX11_hasFrame (d) 0 (lvE 0 [.inr (.inr 0)]) [] h (RIo r) h r.2
  refine RK.of (RN.blk (ops := [(0, .aload_n 0)]) (pc' := 1) (lv' := [(0, .inr (.inr 0))]) (st' := [.inr (.inr 0)]) (h' := h) (cs := []) (by decide +kernel) rfl trivial) ?_
  refine RK.of (RN.gr (i := 41) (ci := 11) (k := 5) (fn := true) (v := 20) (by decide +kernel) rfl (TO.gk (o_0 hL)) (hL.fo (v := 20) 5 2 (o_0 hL) rfl (by decide) rfl).1) ?_
  refine RK.of (RN.gr (i := 130) (ci := 2) (k := 0) (fn := true) (v := 21) (by decide +kernel) rfl (TO.gk (o_20 hL)) (hL.fo (v := 21) 0 8 (o_20 hL) rfl (by decide) rfl).1) ?_
  refine RK.of (RN.blk (ops := [(7, .getfield 320)]) (pc' := 10) (lv' := [(0, .inr (.inr 0))]) (st' := [.inl (m_rd h 21 3)]) (h' := h) (cs := [GK h 21 8]) (by decide +kernel) rfl ⟨(o_21 hL).gk, trivial⟩) ?_
  rcases it_of hF with ⟨hb, hF⟩ | ⟨hb, hF⟩
  · refine RK.of (RN.iff (cd := .le) (off := 7) (tgt := 17) (by decide +kernel) (mif_len hb)) ?_
    refine RK.of (RN.blk (ops := [(13, .iconst 1)]) (pc' := 14) (lv' := [(0, .inr (.inr 0))]) (st' := [.inl 1]) (h' := h) (cs := []) (by decide +kernel) rfl trivial) ?_
    refine RK.of (RN.goto (off := 4) (tgt := 18) (by decide +kernel)) ?_
    exact RK.zR (by decide +kernel) rfl (Or.inr rfl) hL hK hF
  · refine RK.of (RN.ift (cd := .le) (off := 7) (tgt := 17) (by decide +kernel) (mif_le hb)) ?_
    refine RK.of (RN.blk (ops := [(17, .iconst 0)]) (pc' := 18) (lv' := [(0, .inr (.inr 0))]) (st' := [.inl 0]) (h' := h) (cs := []) (by decide +kernel) rfl trivial) ?_
    exact RK.zR (by decide +kernel) rfl (Or.inl rfl) hL hK hF
noncomputable def GX11_remember (h : MH) : Option (MH) :=
  gd [IB (m_rd h 0 9) 20] (
   (bv (GX10_copyFrom (138 + 8 * (m_rd h 0 9)) 32 h) (fun h2 =>
    some (m_wr (m_wr h2 0 9 (Int.tmod (m_w32 ((m_rd h2 0 9) + 1)) 20)) 0 10 (m_mn (m_w32 ((m_rd (m_wr h2 0 9 (Int.tmod (m_w32 ((m_rd h2 0 9) + 1)) 20)) 0 10) + 1)) 20)))))
theorem DX11_remember {d : Nat} {h : MH} {r : MH} (hL : LR h) (hF : GX11_remember h = some r) : RN xs L iX11_remember (d + 3) 0 (lvE 0 [.inr (.inr 0)]) [] h (RVo r) ∧ LR r ∧ KD h r := by
  unfold GX11_remember at hF
  have hK : KD h h := KD.rf
  show RK xs L iX11_remember (d + 3) 0 (lvE 0 [.inr (.inr 0)]) [] h (RVo r) h r
  refine RK.of (RN.blk (ops := [(0, .aload_n 0)]) (pc' := 1) (lv' := [(0, .inr (.inr 0))]) (st' := [.inr (.inr 0)]) (h' := h) (cs := []) (by decide +kernel) rfl trivial) ?_
  refine RK.of (RN.gr (i := 55) (ci := 11) (k := 8) (fn := true) (v := 137) (by decide +kernel) rfl (TO.gk (o_0 hL)) (hL.fa (v := 137) 8 7 20 (o_0 hL) rfl (by decide) rfl (by decide)).1) ?_
  refine RK.of (RN.blk (ops := [(4, .aload_n 0), (5, .getfield 239)]) (pc' := 8) (lv' := [(0, .inr (.inr 0))]) (st' := [.inl (m_rd h 0 9), .inr (.inr 137)]) (h' := h) (cs := [GK h 0 11]) (by decide +kernel) rfl ⟨(o_0 hL).gk, trivial⟩) ?_
  obtain ⟨hc, hF⟩ := gd_of hF
  refine RK.of (RN.ga (by decide +kernel) ((a_137 hL).ga (by decide) (by decide) hc.1.1 hc.1.2) (hL.2.2.2.2.1 _ hc.1.1 hc.1.2)) ?_
  have k_d1 := hL.pst hc.1.1 hc.1.2
  refine RK.of (RN.blk (ops := [(9, .aload_n 0)]) (pc' := 10) (lv' := [(0, .inr (.inr 0))]) (st' := [.inr (.inr 0), .inr (.inr (138 + 8 * (m_rd h 0 9)))]) (h' := h) (cs := []) (by decide +kernel) rfl trivial) ?_
  refine RK.of (RN.gr (i := 41) (ci := 11) (k := 5) (fn := true) (v := 20) (by decide +kernel) rfl (TO.gk (o_0 hL)) (hL.fo (v := 20) 5 2 (o_0 hL) rfl (by decide) rfl).1) ?_
  refine RK.of (RN.gr (i := 110) (ci := 2) (k := 2) (fn := true) (v := 32) (by decide +kernel) rfl (TO.gk (o_20 hL)) (hL.fo (v := 32) 2 10 (o_20 hL) rfl (by decide) rfl).1) ?_
  obtain ⟨h2, hG, hF⟩ := bv_of hF
  have hq := rcv_ok (as := [.inr (.inr 32)]) (TO.gk k_d1)
  obtain ⟨hN, hL, hQ⟩ := DX10_copyFrom (d := d) hL k_d1 (o_32 hL) hG
  refine RK.of (RN.cv (i := 212) (k := 101) (q2 := iX10_copyFrom) (as := [.inr (.inr (138 + 8 * (m_rd h 0 9))), .inr (.inr 32)]) (r := []) (v := none) (h1 := h2) (by decide +kernel) rfl rfl rfl rfl rfl hq hN) ?_
  have k_d1 := hQ.to k_d1
  have hK := hK.tr hQ
  refine RK.of (RN.blk (ops := [(19, .aload_n 0), (20, .aload_n 0), (21, .getfield 239), (24, .iconst 1), (25, .iadd), (26, .bipush 20), (28, .irem), (29, .putfield 239)]) (pc' := 32) (lv' := [(0, .inr (.inr 0))]) (st' := []) (h' := (m_wr h2 0 9 (Int.tmod (m_w32 ((m_rd h2 0 9) + 1)) 20))) (cs := [GK h2 0 11, (20 : Int) ≠ 0, GK h2 0 11]) (by decide +kernel) rfl ⟨(o_0 hL).gk, (by decide), (o_0 hL).gk, trivial⟩) ?_
  have hL : LR (m_wr h2 0 9 (Int.tmod (m_w32 ((m_rd h2 0 9) + 1)) 20)) := LR.wf (k := 9) hL (o_0 hL) rfl
  have k_d1 := (KD.wr : KD h2 (m_wr h2 0 9 (Int.tmod (m_w32 ((m_rd h2 0 9) + 1)) 20))).to k_d1
  have hK := hK.tr (KD.wr : KD h2 (m_wr h2 0 9 (Int.tmod (m_w32 ((m_rd h2 0 9) + 1)) 20)))
  refine RK.of (RN.blk (ops := [(32, .aload_n 0), (33, .aload_n 0), (34, .getfield 107), (37, .iconst 1), (38, .iadd), (39, .bipush 20)]) (pc' := 41) (lv' := [(0, .inr (.inr 0))]) (st' := [.inl 20, .inl (m_w32 ((m_rd (m_wr h2 0 9 (Int.tmod (m_w32 ((m_rd h2 0 9) + 1)) 20)) 0 10) + 1)), .inr (.inr 0)]) (h' := (m_wr h2 0 9 (Int.tmod (m_w32 ((m_rd h2 0 9) + 1)) 20))) (cs := [GK (m_wr h2 0 9 (Int.tmod (m_w32 ((m_rd h2 0 9) + 1)) 20)) 0 11]) (by decide +kernel) rfl ⟨(o_0 hL).gk, trivial⟩) ?_
  refine RK.of (RN.mn (i := 360) (by decide +kernel) rfl rfl) ?_
  refine RK.of (RN.blk (ops := [(44, .putfield 107)]) (pc' := 47) (lv' := [(0, .inr (.inr 0))]) (st' := []) (h' := (m_wr (m_wr h2 0 9 (Int.tmod (m_w32 ((m_rd h2 0 9) + 1)) 20)) 0 10 (m_mn (m_w32 ((m_rd (m_wr h2 0 9 (Int.tmod (m_w32 ((m_rd h2 0 9) + 1)) 20)) 0 10) + 1)) 20))) (cs := [GK (m_wr h2 0 9 (Int.tmod (m_w32 ((m_rd h2 0 9) + 1)) 20)) 0 11]) (by decide +kernel) rfl ⟨(o_0 hL).gk, trivial⟩) ?_
  have hL : LR (m_wr (m_wr h2 0 9 (Int.tmod (m_w32 ((m_rd h2 0 9) + 1)) 20)) 0 10 (m_mn (m_w32 ((m_rd (m_wr h2 0 9 (Int.tmod (m_w32 ((m_rd h2 0 9) + 1)) 20)) 0 10) + 1)) 20)) := LR.wf (k := 10) hL (o_0 hL) rfl
  have k_d1 := (KD.wr : KD (m_wr h2 0 9 (Int.tmod (m_w32 ((m_rd h2 0 9) + 1)) 20)) (m_wr (m_wr h2 0 9 (Int.tmod (m_w32 ((m_rd h2 0 9) + 1)) 20)) 0 10 (m_mn (m_w32 ((m_rd (m_wr h2 0 9 (Int.tmod (m_w32 ((m_rd h2 0 9) + 1)) 20)) 0 10) + 1)) 20))).to k_d1
  have hK := hK.tr (KD.wr : KD (m_wr h2 0 9 (Int.tmod (m_w32 ((m_rd h2 0 9) + 1)) 20)) (m_wr (m_wr h2 0 9 (Int.tmod (m_w32 ((m_rd h2 0 9) + 1)) 20)) 0 10 (m_mn (m_w32 ((m_rd (m_wr h2 0 9 (Int.tmod (m_w32 ((m_rd h2 0 9) + 1)) 20)) 0 10) + 1)) 20)))
  exact RK.vR (by decide +kernel) rfl hL hK hF
noncomputable def GX11_ruleAt (a1 : Int) (h : MH) : Option (Int × MH) :=
  (if a1 < 0 then
   some ((-1), h)
  else
   (if a1 < (m_rd h 0 4) then
    gd [IB a1 6] (
     some ((m_rd h 19 a1), h))
   else
    some ((-1), h)))
theorem DX11_ruleAt {d : Nat} {a1 : Int} {h : MH} {r : Int × MH} (hL : LR h) (hF : GX11_ruleAt a1 h = some r) : RN xs L iX11_ruleAt (d) 0 (lvE 0 [.inr (.inr 0), .inl a1]) [] h (RAo r) ∧ LR r.2 ∧ KD h r.2 := by
  unfold GX11_ruleAt at hF
  have hK : KD h h := KD.rf
  show RK xs L iX11_ruleAt (d) 0 (lvE 0 [.inr (.inr 0), .inl a1]) [] h (RAo r) h r.2
  refine RK.of (RN.blk (ops := [(0, .iload_n 1)]) (pc' := 1) (lv' := [(0, .inr (.inr 0)), (1, .inl a1)]) (st' := [.inl a1]) (h' := h) (cs := []) (by decide +kernel) rfl trivial) ?_
  rcases it_of hF with ⟨hb, hF⟩ | ⟨hb, hF⟩
  · refine RK.of (RN.ift (cd := .lt) (off := 11) (tgt := 12) (by decide +kernel) (mif_lt hb)) ?_
    refine RK.of (RN.blk (ops := [(12, .aconst_null)]) (pc' := 13) (lv' := [(0, .inr (.inr 0)), (1, .inl a1)]) (st' := [.inr (.inr (-1))]) (h' := h) (cs := []) (by decide +kernel) rfl trivial) ?_
    refine RK.of (RN.goto (off := 9) (tgt := 22) (by decide +kernel)) ?_
    exact RK.aR (by decide +kernel) rfl hL hK hF
  · refine RK.of (RN.iff (cd := .lt) (off := 11) (tgt := 12) (by decide +kernel) (mif_ltn hb)) ?_
    refine RK.of (RN.blk (ops := [(4, .iload_n 1), (5, .aload_n 0), (6, .getfield 120)]) (pc' := 9) (lv' := [(0, .inr (.inr 0)), (1, .inl a1)]) (st' := [.inl (m_rd h 0 4), .inl a1]) (h' := h) (cs := [GK h 0 11]) (by decide +kernel) rfl ⟨(o_0 hL).gk, trivial⟩) ?_
    rcases it_of hF with ⟨hb, hF⟩ | ⟨hb, hF⟩
    · refine RK.of (RN.ict (cd := .lt) (off := 7) (tgt := 16) (by decide +kernel) (mif_lt hb)) ?_
      refine RK.of (RN.blk (ops := [(16, .aload_n 0)]) (pc' := 17) (lv' := [(0, .inr (.inr 0)), (1, .inl a1)]) (st' := [.inr (.inr 0)]) (h' := h) (cs := []) (by decide +kernel) rfl trivial) ?_
      refine RK.of (RN.gr (i := 34) (ci := 11) (k := 3) (fn := true) (v := 19) (by decide +kernel) rfl (TO.gk (o_0 hL)) (hL.fa (v := 19) 3 5 6 (o_0 hL) rfl (by decide) rfl (by decide)).1) ?_
      refine RK.of (RN.blk (ops := [(20, .iload_n 1)]) (pc' := 21) (lv' := [(0, .inr (.inr 0)), (1, .inl a1)]) (st' := [.inl a1, .inr (.inr 19)]) (h' := h) (cs := []) (by decide +kernel) rfl trivial) ?_
      obtain ⟨hc, hF⟩ := gd_of hF
      refine RK.of (RN.ga (by decide +kernel) ((a_19 hL).ga (by decide) (by decide) hc.1.1 hc.1.2) rfl) ?_
      exact RK.aR (by decide +kernel) rfl hL hK hF
    · refine RK.of (RN.icf (cd := .lt) (off := 7) (tgt := 16) (by decide +kernel) (mif_ltn hb)) ?_
      refine RK.of (RN.blk (ops := [(12, .aconst_null)]) (pc' := 13) (lv' := [(0, .inr (.inr 0)), (1, .inl a1)]) (st' := [.inr (.inr (-1))]) (h' := h) (cs := []) (by decide +kernel) rfl trivial) ?_
      refine RK.of (RN.goto (off := 9) (tgt := 22) (by decide +kernel)) ?_
      exact RK.aR (by decide +kernel) rfl hL hK hF
noncomputable def GX11_ruleInForce (h : MH) : Option (Int × MH) :=
  (bd (GX11_ruleAt (m_rd h 20 3) h) (fun x2 h1 =>
   some (x2, h1)))
theorem DX11_ruleInForce {d : Nat} {h : MH} {r : Int × MH} (hL : LR h) (hF : GX11_ruleInForce h = some r) : RN xs L iX11_ruleInForce (d + 1) 0 (lvE 0 [.inr (.inr 0)]) [] h (RAo r) ∧ LR r.2 ∧ KD h r.2 := by
  unfold GX11_ruleInForce at hF
  have hK : KD h h := KD.rf
  show RK xs L iX11_ruleInForce (d + 1) 0 (lvE 0 [.inr (.inr 0)]) [] h (RAo r) h r.2
  refine RK.of (RN.blk (ops := [(0, .aload_n 0), (1, .aload_n 0)]) (pc' := 2) (lv' := [(0, .inr (.inr 0))]) (st' := [.inr (.inr 0), .inr (.inr 0)]) (h' := h) (cs := []) (by decide +kernel) rfl trivial) ?_
  refine RK.of (RN.gr (i := 41) (ci := 11) (k := 5) (fn := true) (v := 20) (by decide +kernel) rfl (TO.gk (o_0 hL)) (hL.fo (v := 20) 5 2 (o_0 hL) rfl (by decide) rfl).1) ?_
  refine RK.of (RN.blk (ops := [(5, .getfield 127)]) (pc' := 8) (lv' := [(0, .inr (.inr 0))]) (st' := [.inl (m_rd h 20 3), .inr (.inr 0)]) (h' := h) (cs := [GK h 20 2]) (by decide +kernel) rfl ⟨(o_20 hL).gk, trivial⟩) ?_
  obtain ⟨x2, h1, hG, hF⟩ := bd_of hF
  have hq := rcv_ok (as := [.inl (m_rd h 20 3)]) (TO.gk (o_0 hL))
  obtain ⟨hN, hL, hQ⟩ := DX11_ruleAt (d := d) hL  hG
  refine RK.of (RN.cv (i := 335) (k := 150) (q2 := iX11_ruleAt) (as := [.inr (.inr 0), .inl (m_rd h 20 3)]) (r := []) (v := some (.inr (.inr x2))) (h1 := h1) (by decide +kernel) rfl rfl rfl rfl rfl hq hN) ?_
  have hK := hK.tr hQ
  exact RK.aR (by decide +kernel) rfl hL hK hF
noncomputable def GX11_startFromNow (h : MH) : Option (MH) :=
  (bv (GX7_start 21 32 h) (fun h1 =>
   some h1))
theorem DX11_startFromNow {d : Nat} {h : MH} {r : MH} (hL : LR h) (hF : GX11_startFromNow h = some r) : RN xs L iX11_startFromNow (d + 4) 0 (lvE 0 [.inr (.inr 0)]) [] h (RVo r) ∧ LR r ∧ KD h r := by
  unfold GX11_startFromNow at hF
  have hK : KD h h := KD.rf
  show RK xs L iX11_startFromNow (d + 4) 0 (lvE 0 [.inr (.inr 0)]) [] h (RVo r) h r
  refine RK.of (RN.blk (ops := [(0, .aload_n 0)]) (pc' := 1) (lv' := [(0, .inr (.inr 0))]) (st' := [.inr (.inr 0)]) (h' := h) (cs := []) (by decide +kernel) rfl trivial) ?_
  refine RK.of (RN.gr (i := 72) (ci := 11) (k := 12) (fn := true) (v := 310) (by decide +kernel) rfl (TO.gk (o_0 hL)) (hL.fo (v := 310) 12 7 (o_0 hL) rfl (by decide) rfl).1) ?_
  refine RK.of (RN.blk (ops := [(4, .aload_n 0)]) (pc' := 5) (lv' := [(0, .inr (.inr 0))]) (st' := [.inr (.inr 0), .inr (.inr 310)]) (h' := h) (cs := []) (by decide +kernel) rfl trivial) ?_
  refine RK.of (RN.gr (i := 41) (ci := 11) (k := 5) (fn := true) (v := 20) (by decide +kernel) rfl (TO.gk (o_0 hL)) (hL.fo (v := 20) 5 2 (o_0 hL) rfl (by decide) rfl).1) ?_
  refine RK.of (RN.gr (i := 130) (ci := 2) (k := 0) (fn := true) (v := 21) (by decide +kernel) rfl (TO.gk (o_20 hL)) (hL.fo (v := 21) 0 8 (o_20 hL) rfl (by decide) rfl).1) ?_
  refine RK.of (RN.blk (ops := [(11, .aload_n 0)]) (pc' := 12) (lv' := [(0, .inr (.inr 0))]) (st' := [.inr (.inr 0), .inr (.inr 21), .inr (.inr 310)]) (h' := h) (cs := []) (by decide +kernel) rfl trivial) ?_
  refine RK.of (RN.gr (i := 41) (ci := 11) (k := 5) (fn := true) (v := 20) (by decide +kernel) rfl (TO.gk (o_0 hL)) (hL.fo (v := 20) 5 2 (o_0 hL) rfl (by decide) rfl).1) ?_
  refine RK.of (RN.gr (i := 110) (ci := 2) (k := 2) (fn := true) (v := 32) (by decide +kernel) rfl (TO.gk (o_20 hL)) (hL.fo (v := 32) 2 10 (o_20 hL) rfl (by decide) rfl).1) ?_
  obtain ⟨h1, hG, hF⟩ := bv_of hF
  have hq := rcv_ok (as := [.inr (.inr 21), .inr (.inr 32)]) (TO.gk (o_310 hL))
  obtain ⟨hN, hL, hQ⟩ := DX7_start (d := d) hL (o_21 hL) (o_32 hL) hG
  refine RK.of (RN.cv (i := 317) (k := 67) (q2 := iX7_start) (as := [.inr (.inr 310), .inr (.inr 21), .inr (.inr 32)]) (r := []) (v := none) (h1 := h1) (by decide +kernel) rfl rfl rfl rfl rfl hq hN) ?_
  have hK := hK.tr hQ
  exact RK.vR (by decide +kernel) rfl hL hK hF
noncomputable def GX11_turn (h : MH) : Option (Int × MH) :=
  (bd (GX11_hasFrame h) (fun x2 h1 =>
   (if x2 = 0 then
    some ((-1), h1)
   else
    (if (m_rd h1 32 6) < 999 then
     (bv (GX11_startFromNow h1) (fun h3 =>
      (bd (GX11_ruleInForce h3) (fun x5 h4 =>
       (bd (GX7_step x5 h4) (fun x7 h6 =>
        (bv (GX11_remember h6) (fun h8 =>
         (bv (GX10_copyFrom 32 314 h8) (fun h9 =>
          (if x7 = (-1) then
           some ((-2), h9)
          else
           some (x7, h9))))))))))))
    else
     some ((-1), h1)))))
theorem DX11_turn {d : Nat} {h : MH} {r : Int × MH} (hL : LR h) (hF : GX11_turn h = some r) : RN xs L iX11_turn (d + 5) 0 (lvE 0 [.inr (.inr 0)]) [] h (RIo r) ∧ LR r.2 ∧ KD h r.2 := by
  unfold GX11_turn at hF
  have hK : KD h h := KD.rf
  show RK xs L iX11_turn (d + 5) 0 (lvE 0 [.inr (.inr 0)]) [] h (RIo r) h r.2
  refine RK.of (RN.blk (ops := [(0, .aload_n 0)]) (pc' := 1) (lv' := [(0, .inr (.inr 0))]) (st' := [.inr (.inr 0)]) (h' := h) (cs := []) (by decide +kernel) rfl trivial) ?_
  obtain ⟨x2, h1, hG, hF⟩ := bd_of hF
  have hq := rcv_ok (as := []) (TO.gk (o_0 hL))
  obtain ⟨hN, hL, hQ⟩ := DX11_hasFrame (d := d + 4) hL  hG
  refine RK.of (RN.cv (i := 191) (k := 149) (q2 := iX11_hasFrame) (as := [.inr (.inr 0)]) (r := []) (v := some (.inl x2)) (h1 := h1) (by decide +kernel) rfl rfl rfl rfl rfl hq hN) ?_
  have hK := hK.tr hQ
  rcases it_of hF with ⟨hb, hF⟩ | ⟨hb, hF⟩
  · refine RK.of (RN.ift (cd := .eq) (off := 19) (tgt := 23) (by decide +kernel) (mif_eq hb)) ?_
    refine RK.of (RN.blk (ops := [(23, .iconst (-1))]) (pc' := 24) (lv' := [(0, .inr (.inr 0))]) (st' := [.inl (-1)]) (h' := h1) (cs := []) (by decide +kernel) rfl trivial) ?_
    exact RK.iR (by decide +kernel) rfl hL hK hF
  · refine RK.of (RN.iff (cd := .eq) (off := 19) (tgt := 23) (by decide +kernel) (mif_eqn hb)) ?_
    refine RK.of (RN.blk (ops := [(7, .aload_n 0)]) (pc' := 8) (lv' := [(0, .inr (.inr 0))]) (st' := [.inr (.inr 0)]) (h' := h1) (cs := []) (by decide +kernel) rfl trivial) ?_
    refine RK.of (RN.gr (i := 41) (ci := 11) (k := 5) (fn := true) (v := 20) (by decide +kernel) rfl (TO.gk (o_0 hL)) (hL.fo (v := 20) 5 2 (o_0 hL) rfl (by decide) rfl).1) ?_
    refine RK.of (RN.gr (i := 110) (ci := 2) (k := 2) (fn := true) (v := 32) (by decide +kernel) rfl (TO.gk (o_20 hL)) (hL.fo (v := 32) 2 10 (o_20 hL) rfl (by decide) rfl).1) ?_
    refine RK.of (RN.blk (ops := [(14, .getfield 173), (17, .sipush 999)]) (pc' := 20) (lv' := [(0, .inr (.inr 0))]) (st' := [.inl 999, .inl (m_rd h1 32 6)]) (h' := h1) (cs := [GK h1 32 10]) (by decide +kernel) rfl ⟨(o_32 hL).gk, trivial⟩) ?_
    rcases it_of hF with ⟨hb, hF⟩ | ⟨hb, hF⟩
    · refine RK.of (RN.ict (cd := .lt) (off := 5) (tgt := 25) (by decide +kernel) (mif_lt hb)) ?_
      refine RK.of (RN.blk (ops := [(25, .aload_n 0)]) (pc' := 26) (lv' := [(0, .inr (.inr 0))]) (st' := [.inr (.inr 0)]) (h' := h1) (cs := []) (by decide +kernel) rfl trivial) ?_
      obtain ⟨h3, hG, hF⟩ := bv_of hF
      have hq := rcv_ok (as := []) (TO.gk (o_0 hL))
      obtain ⟨hN, hL, hQ⟩ := DX11_startFromNow (d := d) hL  hG
      refine RK.of (RN.cv (i := 195) (k := 154) (q2 := iX11_startFromNow) (as := [.inr (.inr 0)]) (r := []) (v := none) (h1 := h3) (by decide +kernel) rfl rfl rfl rfl rfl hq hN) ?_
      have hK := hK.tr hQ
      refine RK.of (RN.blk (ops := [(29, .aload_n 0)]) (pc' := 30) (lv' := [(0, .inr (.inr 0))]) (st' := [.inr (.inr 0)]) (h' := h3) (cs := []) (by decide +kernel) rfl trivial) ?_
      refine RK.of (RN.gr (i := 72) (ci := 11) (k := 12) (fn := true) (v := 310) (by decide +kernel) rfl (TO.gk (o_0 hL)) (hL.fo (v := 310) 12 7 (o_0 hL) rfl (by decide) rfl).1) ?_
      refine RK.of (RN.blk (ops := [(33, .aload_n 0)]) (pc' := 34) (lv' := [(0, .inr (.inr 0))]) (st' := [.inr (.inr 0), .inr (.inr 310)]) (h' := h3) (cs := []) (by decide +kernel) rfl trivial) ?_
      obtain ⟨x5, h4, hG, hF⟩ := bd_of hF
      have hq := rcv_ok (as := []) (TO.gk (o_0 hL))
      obtain ⟨hN, hL, hQ⟩ := DX11_ruleInForce (d := d + 3) hL  hG
      refine RK.of (RN.cv (i := 198) (k := 151) (q2 := iX11_ruleInForce) (as := [.inr (.inr 0)]) (r := [.inr (.inr 310)]) (v := some (.inr (.inr x5))) (h1 := h4) (by decide +kernel) rfl rfl rfl rfl rfl hq hN) ?_
      have hK := hK.tr hQ
      obtain ⟨x7, h6, hG, hF⟩ := bd_of hF
      have hq := rcv_ok (as := [.inr (.inr x5)]) (TO.gk (o_310 hL))
      obtain ⟨hN, hL, hQ⟩ := DX7_step (d := d) hL  hG
      refine RK.of (RN.cv (i := 202) (k := 68) (q2 := iX7_step) (as := [.inr (.inr 310), .inr (.inr x5)]) (r := []) (v := some (.inl x7)) (h1 := h6) (by decide +kernel) rfl rfl rfl rfl rfl hq hN) ?_
      have hK := hK.tr hQ
      refine RK.of (RN.blk (ops := [(40, .istore_n 1), (41, .aload_n 0)]) (pc' := 42) (lv' := [(1, .inl x7), (0, .inr (.inr 0))]) (st' := [.inr (.inr 0)]) (h' := h6) (cs := []) (by decide +kernel) rfl trivial) ?_
      obtain ⟨h8, hG, hF⟩ := bv_of hF
      have hq := rcv_ok (as := []) (TO.gk (o_0 hL))
      obtain ⟨hN, hL, hQ⟩ := DX11_remember (d := d + 1) hL  hG
      refine RK.of (RN.cv (i := 206) (k := 152) (q2 := iX11_remember) (as := [.inr (.inr 0)]) (r := []) (v := none) (h1 := h8) (by decide +kernel) rfl rfl rfl rfl rfl hq hN) ?_
      have hK := hK.tr hQ
      refine RK.of (RN.blk (ops := [(45, .aload_n 0)]) (pc' := 46) (lv' := [(1, .inl x7), (0, .inr (.inr 0))]) (st' := [.inr (.inr 0)]) (h' := h8) (cs := []) (by decide +kernel) rfl trivial) ?_
      refine RK.of (RN.gr (i := 41) (ci := 11) (k := 5) (fn := true) (v := 20) (by decide +kernel) rfl (TO.gk (o_0 hL)) (hL.fo (v := 20) 5 2 (o_0 hL) rfl (by decide) rfl).1) ?_
      refine RK.of (RN.gr (i := 110) (ci := 2) (k := 2) (fn := true) (v := 32) (by decide +kernel) rfl (TO.gk (o_20 hL)) (hL.fo (v := 32) 2 10 (o_20 hL) rfl (by decide) rfl).1) ?_
      refine RK.of (RN.blk (ops := [(52, .aload_n 0)]) (pc' := 53) (lv' := [(1, .inl x7), (0, .inr (.inr 0))]) (st' := [.inr (.inr 0), .inr (.inr 32)]) (h' := h8) (cs := []) (by decide +kernel) rfl trivial) ?_
      refine RK.of (RN.gr (i := 72) (ci := 11) (k := 12) (fn := true) (v := 310) (by decide +kernel) rfl (TO.gk (o_0 hL)) (hL.fo (v := 310) 12 7 (o_0 hL) rfl (by decide) rfl).1) ?_
      refine RK.of (RN.gr (i := 209) (ci := 7) (k := 1) (fn := true) (v := 314) (by decide +kernel) rfl (TO.gk (o_310 hL)) (hL.fo (v := 314) 1 10 (o_310 hL) rfl (by decide) rfl).1) ?_
      obtain ⟨h9, hG, hF⟩ := bv_of hF
      have hq := rcv_ok (as := [.inr (.inr 314)]) (TO.gk (o_32 hL))
      obtain ⟨hN, hL, hQ⟩ := DX10_copyFrom (d := d + 2) hL (o_32 hL) (o_314 hL) hG
      refine RK.of (RN.cv (i := 212) (k := 101) (q2 := iX10_copyFrom) (as := [.inr (.inr 32), .inr (.inr 314)]) (r := []) (v := none) (h1 := h9) (by decide +kernel) rfl rfl rfl rfl rfl hq hN) ?_
      have hK := hK.tr hQ
      refine RK.of (RN.blk (ops := [(62, .iload_n 1), (63, .iconst (-1))]) (pc' := 64) (lv' := [(1, .inl x7), (0, .inr (.inr 0))]) (st' := [.inl (-1), .inl x7]) (h' := h9) (cs := []) (by decide +kernel) rfl trivial) ?_
      rcases it_of hF with ⟨hb, hF⟩ | ⟨hb, hF⟩
      · refine RK.of (RN.icf (cd := .ne) (off := 8) (tgt := 72) (by decide +kernel) (mif_nen hb)) ?_
        refine RK.of (RN.blk (ops := [(67, .bipush (-2))]) (pc' := 69) (lv' := [(1, .inl x7), (0, .inr (.inr 0))]) (st' := [.inl (-2)]) (h' := h9) (cs := []) (by decide +kernel) rfl trivial) ?_
        refine RK.of (RN.goto (off := 4) (tgt := 73) (by decide +kernel)) ?_
        exact RK.iR (by decide +kernel) rfl hL hK hF
      · refine RK.of (RN.ict (cd := .ne) (off := 8) (tgt := 72) (by decide +kernel) (mif_ne hb)) ?_
        refine RK.of (RN.blk (ops := [(72, .iload_n 1)]) (pc' := 73) (lv' := [(1, .inl x7), (0, .inr (.inr 0))]) (st' := [.inl x7]) (h' := h9) (cs := []) (by decide +kernel) rfl trivial) ?_
        exact RK.iR (by decide +kernel) rfl hL hK hF
    · refine RK.of (RN.icf (cd := .lt) (off := 5) (tgt := 25) (by decide +kernel) (mif_ltn hb)) ?_
      refine RK.of (RN.blk (ops := [(23, .iconst (-1))]) (pc' := 24) (lv' := [(0, .inr (.inr 0))]) (st' := [.inl (-1)]) (h' := h1) (cs := []) (by decide +kernel) rfl trivial) ?_
      exact RK.iR (by decide +kernel) rfl hL hK hF
end Gc
