/-! METHODS AS FUNCTIONS, references resolved (by program): X12_isFrameHere, X12_isRoomHere, X12_isPlanHere, X12_isLetterToldHere, X12_frameLineHere, X12_isFrameWord, X12_clauseHere, X12_readsAll, X12_rule, X12_begins, X12_frame -/
section Gc
variable {xs : Int → Int} {L : Int}
noncomputable def GX12_isFrameHere_L55 (K0 : MH → Option (Int × MH)) : Nat → Int → MH → Option (Int × MH)
  | 0, _, _ => none
  | f + 1, v2, h =>
    (if v2 < 6 then
     gd [IB (m_w32 (82 + v2)) 136] (
      GX12_isFrameHere_L55 K0 f (m_w32 (v2 + 1)) (m_wr h 340 (m_w32 (82 + v2)) 5))
    else
     K0 h)
theorem DX12_isFrameHere_L55 {d : Nat} {K0 : MH → Option (Int × MH)} {r : Int × MH} {h0 hB : MH} (hB0 : KD h0 hB) (hK0 : ∀ (h : MH), LR h → KD hB h → K0 h = some r → RK xs L iX12_isFrameHere (d + 3) 77 [(0, .inr (.inr 334))] [] h (RIo r) h0 r.2) : ∀ (f : Nat) (v2 : Int) (h : MH), LR h → KD hB h → GX12_isFrameHere_L55 K0 f v2 h = some r → RK xs L iX12_isFrameHere (d + 3) 55 [(0, .inr (.inr 334)), (2, .inl v2)] [] h (RIo r) h0 r.2 := by
  intro f
  induction f with
  | zero =>
    intro v2 h hL hJ hF
    cases hF
  | succ f ih =>
    intro v2 h hL hJ hF
    unfold GX12_isFrameHere_L55 at hF
    have hK := hB0.tr hJ
    refine RK.of (RN.blk (ops := [(55, .iload_n 2), (56, .bipush 6)]) (pc' := 58) (lv' := [(0, .inr (.inr 334)), (2, .inl v2)]) (st' := [.inl 6, .inl v2]) (h' := h) (cs := []) (by decide +kernel) rfl trivial) ?_
    rcases it_of hF with ⟨hb, hF⟩ | ⟨hb, hF⟩
    · refine RK.of (RN.icf (cd := .ge) (off := 19) (tgt := 77) (by decide +kernel) (mif_gen hb)) ?_
      refine RK.of (RN.blk (ops := [(61, .aload_n 0)]) (pc' := 62) (lv' := [(0, .inr (.inr 334)), (2, .inl v2)]) (st' := [.inr (.inr 334)]) (h' := h) (cs := []) (by decide +kernel) rfl trivial) ?_
      refine RK.of (RN.gr (i := 26) (ci := 12) (k := 7) (fn := true) (v := 340) (by decide +kernel) rfl (TO.gk (o_334 hL)) (hL.fa (v := 340) 7 1 136 (o_334 hL) rfl (by decide) rfl (by decide)).1) ?_
      obtain ⟨hc, hF⟩ := gd_of hF
      refine RK.of (RN.blk (ops := [(65, .bipush 82), (67, .iload_n 2), (68, .iadd), (69, .iconst 5), (70, .iastore)]) (pc' := 71) (lv' := [(0, .inr (.inr 334)), (2, .inl v2)]) (st' := []) (h' := (m_wr h 340 (m_w32 (82 + v2)) 5)) (cs := [GI h 340 1 (m_w32 (82 + v2))]) (by decide +kernel) rfl ⟨(a_340 hL).gi hc.1.1 hc.1.2, trivial⟩) ?_
      have hL : LR (m_wr h 340 (m_w32 (82 + v2)) 5) := hL.wa (TA.le5 (a_340 hL) (by decide))
      have hK := hK.tr (KD.wr : KD h (m_wr h 340 (m_w32 (82 + v2)) 5))
      have hJ := hJ.tr (KD.wr : KD h (m_wr h 340 (m_w32 (82 + v2)) 5))
      refine RK.of (RN.blk (ops := [(71, .iinc 2 1)]) (pc' := 74) (lv' := [(2, .inl (m_w32 (v2 + 1))), (0, .inr (.inr 334))]) (st' := []) (h' := (m_wr h 340 (m_w32 (82 + v2)) 5)) (cs := []) (by decide +kernel) rfl trivial) ?_
      refine RK.of (RN.goto (off := -19) (tgt := 55) (by decide +kernel)) ?_
      exact RK.sub (ih _ _ hL hJ hF) (sub_cons rfl (sub_cons rfl sub_nil))
    · refine RK.of (RN.ict (cd := .ge) (off := 19) (tgt := 77) (by decide +kernel) (mif_ge hb)) ?_
      exact RK.sub (hK0 _ hL hJ hF) (sub_cons rfl sub_nil)
noncomputable def GX12_isFrameHere (a1 : Int) (h : MH) : Option (Int × MH) :=
  (if 0 < (m_rd h 340 0) then
   (bd (GX12_fails 4 a1 h) (fun x10 h9 =>
    gd [GT x10] (some (x10, h9))))
  else
   (bv (GX12_passWord h) (fun h1 =>
    (bd (GX12_cellHere 1 2 4 h1) (fun x3 h2 =>
     (if x3 = 0 then
      some (0, h2)
     else
      (bd (GX12_cellHere 2 1 4 h2) (fun x5 h4 =>
       (if x5 = 0 then
        some (0, h4)
       else
        (bd (GX12_cellHere 3 1 6 h4) (fun x7 h6 =>
         (if x7 = 0 then
          some (0, h6)
         else
          GX12_isFrameHere_L55 (fun h8 =>
           some (1, (m_wr h8 340 0 1))) FU 0 h6))))))))))))
theorem DX12_isFrameHere {d : Nat} {a1 : Int} {h : MH} {r : Int × MH} (hL : LR h) (hF : GX12_isFrameHere a1 h = some r) : RN xs L iX12_isFrameHere (d + 3) 0 (lvE 0 [.inr (.inr 334), .inl a1]) [] h (RIo r) ∧ LR r.2 ∧ KD h r.2 := by
  unfold GX12_isFrameHere at hF
  have hK : KD h h := KD.rf
  show RK xs L iX12_isFrameHere (d + 3) 0 (lvE 0 [.inr (.inr 334), .inl a1]) [] h (RIo r) h r.2
  refine RK.of (RN.blk (ops := [(0, .aload_n 0)]) (pc' := 1) (lv' := [(0, .inr (.inr 334)), (1, .inl a1)]) (st' := [.inr (.inr 334)]) (h' := h) (cs := []) (by decide +kernel) rfl trivial) ?_
  refine RK.of (RN.gr (i := 26) (ci := 12) (k := 7) (fn := true) (v := 340) (by decide +kernel) rfl (TO.gk (o_334 hL)) (hL.fa (v := 340) 7 1 136 (o_334 hL) rfl (by decide) rfl (by decide)).1) ?_
  refine RK.of (RN.blk (ops := [(4, .iconst 0), (5, .iaload)]) (pc' := 6) (lv' := [(0, .inr (.inr 334)), (1, .inl a1)]) (st' := [.inl (m_rd h 340 0)]) (h' := h) (cs := [GI h 340 1 0]) (by decide +kernel) rfl ⟨(a_340 hL).gi (by decide) (by decide), trivial⟩) ?_
  rcases it_of hF with ⟨hb, hF⟩ | ⟨hb, hF⟩
  · refine RK.of (RN.iff (cd := .le) (off := 10) (tgt := 16) (by decide +kernel) (mif_len hb)) ?_
    refine RK.of (RN.blk (ops := [(9, .aload_n 0), (10, .iconst 4), (11, .iload_n 1)]) (pc' := 12) (lv' := [(0, .inr (.inr 334)), (1, .inl a1)]) (st' := [.inl a1, .inl 4, .inr (.inr 334)]) (h' := h) (cs := []) (by decide +kernel) rfl trivial) ?_
    obtain ⟨x10, h9, hG, hF⟩ := bd_of hF
    have hq := rcv_ok (as := [.inl 4, .inl a1]) (TO.gk (o_334 hL))
    obtain ⟨hN, hL, hQ⟩ := DX12_fails (d := d + 2) hL  hG
    refine RK.of (RN.cv (i := 120) (k := 163) (q2 := iX12_fails) (as := [.inr (.inr 334), .inl 4, .inl a1]) (r := []) (v := some (.inl x10)) (h1 := h9) (by decide +kernel) rfl rfl rfl rfl rfl hq hN) ?_
    have hK := hK.tr hQ
    obtain ⟨hc, hF⟩ := gd_of hF
    exact RK.zR (by decide +kernel) rfl hc.1 hL hK hF
  · refine RK.of (RN.ift (cd := .le) (off := 10) (tgt := 16) (by decide +kernel) (mif_le hb)) ?_
    refine RK.of (RN.blk (ops := [(16, .aload_n 0)]) (pc' := 17) (lv' := [(0, .inr (.inr 334)), (1, .inl a1)]) (st' := [.inr (.inr 334)]) (h' := h) (cs := []) (by decide +kernel) rfl trivial) ?_
    obtain ⟨h1, hG, hF⟩ := bv_of hF
    have hq := rcv_ok (as := []) (TO.gk (o_334 hL))
    obtain ⟨hN, hL, hQ⟩ := DX12_passWord (d := d + 1) hL  hG
    refine RK.of (RN.cv (i := 114) (k := 168) (q2 := iX12_passWord) (as := [.inr (.inr 334)]) (r := []) (v := none) (h1 := h1) (by decide +kernel) rfl rfl rfl rfl rfl hq hN) ?_
    have hK := hK.tr hQ
    refine RK.of (RN.blk (ops := [(20, .aload_n 0), (21, .iconst 1), (22, .iconst 2), (23, .iconst 4)]) (pc' := 24) (lv' := [(0, .inr (.inr 334)), (1, .inl a1)]) (st' := [.inl 4, .inl 2, .inl 1, .inr (.inr 334)]) (h' := h1) (cs := []) (by decide +kernel) rfl trivial) ?_
    obtain ⟨x3, h2, hG, hF⟩ := bd_of hF
    have hq := rcv_ok (as := [.inl 1, .inl 2, .inl 4]) (TO.gk (o_334 hL))
    obtain ⟨hN, hL, hQ⟩ := DX12_cellHere (d := d) hL  hG
    refine RK.of (RN.cv (i := 225) (k := 186) (q2 := iX12_cellHere) (as := [.inr (.inr 334), .inl 1, .inl 2, .inl 4]) (r := []) (v := some (.inl x3)) (h1 := h2) (by decide +kernel) rfl rfl rfl rfl rfl hq hN) ?_
    have hK := hK.tr hQ
    rcases it_of hF with ⟨hb, hF⟩ | ⟨hb, hF⟩
    · refine RK.of (RN.ift (cd := .eq) (off := 24) (tgt := 51) (by decide +kernel) (mif_eq hb)) ?_
      refine RK.of (RN.blk (ops := [(51, .iconst 0)]) (pc' := 52) (lv' := [(0, .inr (.inr 334)), (1, .inl a1)]) (st' := [.inl 0]) (h' := h2) (cs := []) (by decide +kernel) rfl trivial) ?_
      exact RK.zR (by decide +kernel) rfl (Or.inl rfl) hL hK hF
    · refine RK.of (RN.iff (cd := .eq) (off := 24) (tgt := 51) (by decide +kernel) (mif_eqn hb)) ?_
      refine RK.of (RN.blk (ops := [(30, .aload_n 0), (31, .iconst 2), (32, .iconst 1), (33, .iconst 4)]) (pc' := 34) (lv' := [(0, .inr (.inr 334)), (1, .inl a1)]) (st' := [.inl 4, .inl 1, .inl 2, .inr (.inr 334)]) (h' := h2) (cs := []) (by decide +kernel) rfl trivial) ?_
      obtain ⟨x5, h4, hG, hF⟩ := bd_of hF
      have hq := rcv_ok (as := [.inl 2, .inl 1, .inl 4]) (TO.gk (o_334 hL))
      obtain ⟨hN, hL, hQ⟩ := DX12_cellHere (d := d) hL  hG
      refine RK.of (RN.cv (i := 225) (k := 186) (q2 := iX12_cellHere) (as := [.inr (.inr 334), .inl 2, .inl 1, .inl 4]) (r := []) (v := some (.inl x5)) (h1 := h4) (by decide +kernel) rfl rfl rfl rfl rfl hq hN) ?_
      have hK := hK.tr hQ
      rcases it_of hF with ⟨hb, hF⟩ | ⟨hb, hF⟩
      · refine RK.of (RN.ift (cd := .eq) (off := 14) (tgt := 51) (by decide +kernel) (mif_eq hb)) ?_
        refine RK.of (RN.blk (ops := [(51, .iconst 0)]) (pc' := 52) (lv' := [(0, .inr (.inr 334)), (1, .inl a1)]) (st' := [.inl 0]) (h' := h4) (cs := []) (by decide +kernel) rfl trivial) ?_
        exact RK.zR (by decide +kernel) rfl (Or.inl rfl) hL hK hF
      · refine RK.of (RN.iff (cd := .eq) (off := 14) (tgt := 51) (by decide +kernel) (mif_eqn hb)) ?_
        refine RK.of (RN.blk (ops := [(40, .aload_n 0), (41, .iconst 3), (42, .iconst 1), (43, .bipush 6)]) (pc' := 45) (lv' := [(0, .inr (.inr 334)), (1, .inl a1)]) (st' := [.inl 6, .inl 1, .inl 3, .inr (.inr 334)]) (h' := h4) (cs := []) (by decide +kernel) rfl trivial) ?_
        obtain ⟨x7, h6, hG, hF⟩ := bd_of hF
        have hq := rcv_ok (as := [.inl 3, .inl 1, .inl 6]) (TO.gk (o_334 hL))
        obtain ⟨hN, hL, hQ⟩ := DX12_cellHere (d := d) hL  hG
        refine RK.of (RN.cv (i := 225) (k := 186) (q2 := iX12_cellHere) (as := [.inr (.inr 334), .inl 3, .inl 1, .inl 6]) (r := []) (v := some (.inl x7)) (h1 := h6) (by decide +kernel) rfl rfl rfl rfl rfl hq hN) ?_
        have hK := hK.tr hQ
        rcases it_of hF with ⟨hb, hF⟩ | ⟨hb, hF⟩
        · refine RK.of (RN.iff (cd := .ne) (off := 5) (tgt := 53) (by decide +kernel) (mif_nen hb)) ?_
          refine RK.of (RN.blk (ops := [(51, .iconst 0)]) (pc' := 52) (lv' := [(0, .inr (.inr 334)), (1, .inl a1)]) (st' := [.inl 0]) (h' := h6) (cs := []) (by decide +kernel) rfl trivial) ?_
          exact RK.zR (by decide +kernel) rfl (Or.inl rfl) hL hK hF
        · refine RK.of (RN.ift (cd := .ne) (off := 5) (tgt := 53) (by decide +kernel) (mif_ne hb)) ?_
          refine RK.of (RN.blk (ops := [(53, .iconst 0), (54, .istore_n 2)]) (pc' := 55) (lv' := [(2, .inl 0), (0, .inr (.inr 334)), (1, .inl a1)]) (st' := []) (h' := h6) (cs := []) (by decide +kernel) rfl trivial) ?_
          refine RK.sub (DX12_isFrameHere_L55 hK ?_ _ _ _ hL KD.rf hF) (sub_cons rfl (sub_cons rfl sub_nil))
          · intro h8 hL hq hF
            have hK := hK.tr hq
            refine RK.of (RN.blk (ops := [(77, .aload_n 0)]) (pc' := 78) (lv' := [(0, .inr (.inr 334))]) (st' := [.inr (.inr 334)]) (h' := h8) (cs := []) (by decide +kernel) rfl trivial) ?_
            refine RK.of (RN.gr (i := 26) (ci := 12) (k := 7) (fn := true) (v := 340) (by decide +kernel) rfl (TO.gk (o_334 hL)) (hL.fa (v := 340) 7 1 136 (o_334 hL) rfl (by decide) rfl (by decide)).1) ?_
            refine RK.of (RN.blk (ops := [(81, .iconst 0), (82, .iconst 1), (83, .iastore)]) (pc' := 84) (lv' := [(0, .inr (.inr 334))]) (st' := []) (h' := (m_wr h8 340 0 1)) (cs := [GI h8 340 1 0]) (by decide +kernel) rfl ⟨(a_340 hL).gi (by decide) (by decide), trivial⟩) ?_
            have hL : LR (m_wr h8 340 0 1) := hL.wa (TA.le5 (a_340 hL) (by decide))
            have hK := hK.tr (KD.wr : KD h8 (m_wr h8 340 0 1))
            refine RK.of (RN.blk (ops := [(84, .iconst 1)]) (pc' := 85) (lv' := [(0, .inr (.inr 334))]) (st' := [.inl 1]) (h' := (m_wr h8 340 0 1)) (cs := []) (by decide +kernel) rfl trivial) ?_
            exact RK.zR (by decide +kernel) rfl (Or.inr rfl) hL hK hF
noncomputable def GX12_isRoomHere (h : MH) : Option (Int × MH) :=
  (bv (GX12_passWord h) (fun h1 =>
   (bd (GX12_numberHere 0 (m_w32 ((m_rd h1 340 3) - 1)) h1) (fun x3 h2 =>
    (if x3 = 0 then
     some (0, h2)
    else
     (bd (GX12_cellHere (m_w32 (82 + (m_rd h2 334 10))) 1 20 h2) (fun x5 h4 =>
      gd [GT x5] (some (x5, h4)))))))))
theorem DX12_isRoomHere {d : Nat} {h : MH} {r : Int × MH} (hL : LR h) (hF : GX12_isRoomHere h = some r) : RN xs L iX12_isRoomHere (d + 3) 0 (lvE 0 [.inr (.inr 334)]) [] h (RIo r) ∧ LR r.2 ∧ KD h r.2 := by
  unfold GX12_isRoomHere at hF
  have hK : KD h h := KD.rf
  show RK xs L iX12_isRoomHere (d + 3) 0 (lvE 0 [.inr (.inr 334)]) [] h (RIo r) h r.2
  refine RK.of (RN.blk (ops := [(0, .aload_n 0)]) (pc' := 1) (lv' := [(0, .inr (.inr 334))]) (st' := [.inr (.inr 334)]) (h' := h) (cs := []) (by decide +kernel) rfl trivial) ?_
  obtain ⟨h1, hG, hF⟩ := bv_of hF
  have hq := rcv_ok (as := []) (TO.gk (o_334 hL))
  obtain ⟨hN, hL, hQ⟩ := DX12_passWord (d := d + 1) hL  hG
  refine RK.of (RN.cv (i := 114) (k := 168) (q2 := iX12_passWord) (as := [.inr (.inr 334)]) (r := []) (v := none) (h1 := h1) (by decide +kernel) rfl rfl rfl rfl rfl hq hN) ?_
  have hK := hK.tr hQ
  refine RK.of (RN.blk (ops := [(4, .aload_n 0), (5, .iconst 0), (6, .aload_n 0)]) (pc' := 7) (lv' := [(0, .inr (.inr 334))]) (st' := [.inr (.inr 334), .inl 0, .inr (.inr 334)]) (h' := h1) (cs := []) (by decide +kernel) rfl trivial) ?_
  refine RK.of (RN.gr (i := 26) (ci := 12) (k := 7) (fn := true) (v := 340) (by decide +kernel) rfl (TO.gk (o_334 hL)) (hL.fa (v := 340) 7 1 136 (o_334 hL) rfl (by decide) rfl (by decide)).1) ?_
  refine RK.of (RN.blk (ops := [(10, .iconst 3), (11, .iaload), (12, .iconst 1), (13, .isub)]) (pc' := 14) (lv' := [(0, .inr (.inr 334))]) (st' := [.inl (m_w32 ((m_rd h1 340 3) - 1)), .inl 0, .inr (.inr 334)]) (h' := h1) (cs := [GI h1 340 1 3]) (by decide +kernel) rfl ⟨(a_340 hL).gi (by decide) (by decide), trivial⟩) ?_
  obtain ⟨x3, h2, hG, hF⟩ := bd_of hF
  have hq := rcv_ok (as := [.inl 0, .inl (m_w32 ((m_rd h1 340 3) - 1))]) (TO.gk (o_334 hL))
  obtain ⟨hN, hL, hQ⟩ := DX12_numberHere (d := d + 1) hL  hG
  refine RK.of (RN.cv (i := 174) (k := 170) (q2 := iX12_numberHere) (as := [.inr (.inr 334), .inl 0, .inl (m_w32 ((m_rd h1 340 3) - 1))]) (r := []) (v := some (.inl x3)) (h1 := h2) (by decide +kernel) rfl rfl rfl rfl rfl hq hN) ?_
  have hK := hK.tr hQ
  rcases it_of hF with ⟨hb, hF⟩ | ⟨hb, hF⟩
  · refine RK.of (RN.iff (cd := .ne) (off := 5) (tgt := 22) (by decide +kernel) (mif_nen hb)) ?_
    refine RK.of (RN.blk (ops := [(20, .iconst 0)]) (pc' := 21) (lv' := [(0, .inr (.inr 334))]) (st' := [.inl 0]) (h' := h2) (cs := []) (by decide +kernel) rfl trivial) ?_
    exact RK.zR (by decide +kernel) rfl (Or.inl rfl) hL hK hF
  · refine RK.of (RN.ift (cd := .ne) (off := 5) (tgt := 22) (by decide +kernel) (mif_ne hb)) ?_
    refine RK.of (RN.blk (ops := [(22, .aload_n 0), (23, .getfield 124), (26, .istore_n 1), (27, .aload_n 0), (28, .bipush 82), (30, .iload_n 1), (31, .iadd), (32, .iconst 1), (33, .bipush 20)]) (pc' := 35) (lv' := [(1, .inl (m_rd h2 334 10)), (0, .inr (.inr 334))]) (st' := [.inl 20, .inl 1, .inl (m_w32 (82 + (m_rd h2 334 10))), .inr (.inr 334)]) (h' := h2) (cs := [GK h2 334 12]) (by decide +kernel) rfl ⟨(o_334 hL).gk, trivial⟩) ?_
    obtain ⟨x5, h4, hG, hF⟩ := bd_of hF
    have hq := rcv_ok (as := [.inl (m_w32 (82 + (m_rd h2 334 10))), .inl 1, .inl 20]) (TO.gk (o_334 hL))
    obtain ⟨hN, hL, hQ⟩ := DX12_cellHere (d := d) hL  hG
    refine RK.of (RN.cv (i := 225) (k := 186) (q2 := iX12_cellHere) (as := [.inr (.inr 334), .inl (m_w32 (82 + (m_rd h2 334 10))), .inl 1, .inl 20]) (r := []) (v := some (.inl x5)) (h1 := h4) (by decide +kernel) rfl rfl rfl rfl rfl hq hN) ?_
    have hK := hK.tr hQ
    obtain ⟨hc, hF⟩ := gd_of hF
    exact RK.zR (by decide +kernel) rfl hc.1 hL hK hF
noncomputable def GX12_isPlanHere_L91 (u2 : Int) (u3 : Int) (K0 : Int → MH → Option (Int × MH)) : Nat → Int → MH → Option (Int × MH)
  | 0, _, _ => none
  | f + 1, v4, h =>
    (if v4 < (m_rd h 340 4) then
     gd [IB (m_w32 (88 + (m_w32 (3 * v4)))) 136] (
      (if (m_rd h 340 (m_w32 (88 + (m_w32 (3 * v4))))) = u2 then
       gd [IB (m_w32 ((m_w32 (88 + (m_w32 (3 * v4)))) + 1)) 136] (
        (if (m_rd h 340 (m_w32 ((m_w32 (88 + (m_w32 (3 * v4)))) + 1))) = u3 then
         K0 v4 h
        else
         GX12_isPlanHere_L91 u2 u3 K0 f (m_w32 (v4 + 1)) h))
      else
       GX12_isPlanHere_L91 u2 u3 K0 f (m_w32 (v4 + 1)) h))
    else
     K0 v4 h)
theorem DX12_isPlanHere_L91 {d : Nat} {u2 : Int} {u3 : Int} {K0 : Int → MH → Option (Int × MH)} {r : Int × MH} {h0 hB : MH} (hB0 : KD h0 hB) (hK0 : ∀ (w4 : Int) (h : MH), LR h → KD hB h → K0 w4 h = some r → RK xs L iX12_isPlanHere (d + 2) 142 [(0, .inr (.inr 334)), (2, .inl u2), (3, .inl u3), (4, .inl w4)] [] h (RIo r) h0 r.2) : ∀ (f : Nat) (v4 : Int) (h : MH), LR h → KD hB h → GX12_isPlanHere_L91 u2 u3 K0 f v4 h = some r → RK xs L iX12_isPlanHere (d + 2) 91 [(0, .inr (.inr 334)), (2, .inl u2), (3, .inl u3), (4, .inl v4)] [] h (RIo r) h0 r.2 := by
  intro f
  induction f with
  | zero =>
    intro v4 h hL hJ hF
    cases hF
  | succ f ih =>
    intro v4 h hL hJ hF
    unfold GX12_isPlanHere_L91 at hF
    have hK := hB0.tr hJ
    refine RK.of (RN.blk (ops := [(91, .iload 4), (93, .aload_n 0)]) (pc' := 94) (lv' := [(0, .inr (.inr 334)), (2, .inl u2), (3, .inl u3), (4, .inl v4)]) (st' := [.inr (.inr 334), .inl v4]) (h' := h) (cs := []) (by decide +kernel) rfl trivial) ?_
    refine RK.of (RN.gr (i := 26) (ci := 12) (k := 7) (fn := true) (v := 340) (by decide +kernel) rfl (TO.gk (o_334 hL)) (hL.fa (v := 340) 7 1 136 (o_334 hL) rfl (by decide) rfl (by decide)).1) ?_
    refine RK.of (RN.blk (ops := [(97, .iconst 4), (98, .iaload)]) (pc' := 99) (lv' := [(0, .inr (.inr 334)), (2, .inl u2), (3, .inl u3), (4, .inl v4)]) (st' := [.inl (m_rd h 340 4), .inl v4]) (h' := h) (cs := [GI h 340 1 4]) (by decide +kernel) rfl ⟨(a_340 hL).gi (by decide) (by decide), trivial⟩) ?_
    rcases it_of hF with ⟨hb, hF⟩ | ⟨hb, hF⟩
    · refine RK.of (RN.icf (cd := .ge) (off := 43) (tgt := 142) (by decide +kernel) (mif_gen hb)) ?_
      refine RK.of (RN.blk (ops := [(102, .aload_n 0)]) (pc' := 103) (lv' := [(0, .inr (.inr 334)), (2, .inl u2), (3, .inl u3), (4, .inl v4)]) (st' := [.inr (.inr 334)]) (h' := h) (cs := []) (by decide +kernel) rfl trivial) ?_
      refine RK.of (RN.gr (i := 26) (ci := 12) (k := 7) (fn := true) (v := 340) (by decide +kernel) rfl (TO.gk (o_334 hL)) (hL.fa (v := 340) 7 1 136 (o_334 hL) rfl (by decide) rfl (by decide)).1) ?_
      obtain ⟨hc, hF⟩ := gd_of hF
      refine RK.of (RN.blk (ops := [(106, .bipush 88), (108, .iconst 3), (109, .iload 4), (111, .imul), (112, .iadd), (113, .iaload), (114, .iload_n 2)]) (pc' := 115) (lv' := [(0, .inr (.inr 334)), (2, .inl u2), (3, .inl u3), (4, .inl v4)]) (st' := [.inl u2, .inl (m_rd h 340 (m_w32 (88 + (m_w32 (3 * v4)))))]) (h' := h) (cs := [GI h 340 1 (m_w32 (88 + (m_w32 (3 * v4))))]) (by decide +kernel) rfl ⟨(a_340 hL).gi hc.1.1 hc.1.2, trivial⟩) ?_
      rcases it_of hF with ⟨hb, hF⟩ | ⟨hb, hF⟩
      · refine RK.of (RN.icf (cd := .ne) (off := 21) (tgt := 136) (by decide +kernel) (mif_nen hb)) ?_
        refine RK.of (RN.blk (ops := [(118, .aload_n 0)]) (pc' := 119) (lv' := [(0, .inr (.inr 334)), (2, .inl u2), (3, .inl u3), (4, .inl v4)]) (st' := [.inr (.inr 334)]) (h' := h) (cs := []) (by decide +kernel) rfl trivial) ?_
        refine RK.of (RN.gr (i := 26) (ci := 12) (k := 7) (fn := true) (v := 340) (by decide +kernel) rfl (TO.gk (o_334 hL)) (hL.fa (v := 340) 7 1 136 (o_334 hL) rfl (by decide) rfl (by decide)).1) ?_
        obtain ⟨hc, hF⟩ := gd_of hF
        refine RK.of (RN.blk (ops := [(122, .bipush 88), (124, .iconst 3), (125, .iload 4), (127, .imul), (128, .iadd), (129, .iconst 1), (130, .iadd), (131, .iaload), (132, .iload_n 3)]) (pc' := 133) (lv' := [(0, .inr (.inr 334)), (2, .inl u2), (3, .inl u3), (4, .inl v4)]) (st' := [.inl u3, .inl (m_rd h 340 (m_w32 ((m_w32 (88 + (m_w32 (3 * v4)))) + 1)))]) (h' := h) (cs := [GI h 340 1 (m_w32 ((m_w32 (88 + (m_w32 (3 * v4)))) + 1))]) (by decide +kernel) rfl ⟨(a_340 hL).gi hc.1.1 hc.1.2, trivial⟩) ?_
        rcases it_of hF with ⟨hb, hF⟩ | ⟨hb, hF⟩
        · refine RK.of (RN.ict (cd := .eq) (off := 9) (tgt := 142) (by decide +kernel) (mif_eq hb)) ?_
          exact RK.sub (hK0 _ _ hL hJ hF) (sub_cons rfl (sub_cons rfl (sub_cons rfl (sub_cons rfl sub_nil))))
        · refine RK.of (RN.icf (cd := .eq) (off := 9) (tgt := 142) (by decide +kernel) (mif_eqn hb)) ?_
          refine RK.of (RN.blk (ops := [(136, .iinc 4 1)]) (pc' := 139) (lv' := [(4, .inl (m_w32 (v4 + 1))), (0, .inr (.inr 334)), (2, .inl u2), (3, .inl u3)]) (st' := []) (h' := h) (cs := []) (by decide +kernel) rfl trivial) ?_
          refine RK.of (RN.goto (off := -48) (tgt := 91) (by decide +kernel)) ?_
          exact RK.sub (ih _ _ hL hJ hF) (sub_cons rfl (sub_cons rfl (sub_cons rfl (sub_cons rfl sub_nil))))
      · refine RK.of (RN.ict (cd := .ne) (off := 21) (tgt := 136) (by decide +kernel) (mif_ne hb)) ?_
        refine RK.of (RN.blk (ops := [(136, .iinc 4 1)]) (pc' := 139) (lv' := [(4, .inl (m_w32 (v4 + 1))), (0, .inr (.inr 334)), (2, .inl u2), (3, .inl u3)]) (st' := []) (h' := h) (cs := []) (by decide +kernel) rfl trivial) ?_
        refine RK.of (RN.goto (off := -48) (tgt := 91) (by decide +kernel)) ?_
        exact RK.sub (ih _ _ hL hJ hF) (sub_cons rfl (sub_cons rfl (sub_cons rfl (sub_cons rfl sub_nil))))
    · refine RK.of (RN.ict (cd := .ge) (off := 43) (tgt := 142) (by decide +kernel) (mif_ge hb)) ?_
      exact RK.sub (hK0 _ _ hL hJ hF) (sub_cons rfl (sub_cons rfl (sub_cons rfl (sub_cons rfl sub_nil))))
noncomputable def GX12_isPlanHere (a1 : Int) (h : MH) : Option (Int × MH) :=
  (if (m_rd h 340 4) = 12 then
   (bd (GX12_fails 4 a1 h) (fun x17 h16 =>
    gd [GT x17] (some (x17, h16))))
  else
   (bv (GX12_passWord h) (fun h1 =>
    (bd (GX12_numberHere 0 (m_rd h1 340 2) h1) (fun x3 h2 =>
     (if x3 = 0 then
      some (0, h2)
     else
      (bd (GX12_power (m_rd h2 340 1) (m_rd h2 334 10) h2) (fun x5 h4 =>
       (bd (GX12_numberHere 0 (m_w32 (x5 - 1)) h4) (fun x7 h6 =>
        (if x7 = 0 then
         some (0, h6)
        else
         (bd (GX12_numberHere 0 (m_w32 ((m_rd h6 340 3) - 1)) h6) (fun x9 h8 =>
          (if x9 = 0 then
           some (0, h8)
          else
           GX12_isPlanHere_L91 (m_rd h2 334 10) (m_rd h6 334 10) (fun w10 h11 =>
            jn (fun (h13 : MH) =>
             gd [IB (m_w32 (88 + (m_w32 (3 * w10)))) 136] (
              gd [IB (m_w32 ((m_w32 (88 + (m_w32 (3 * w10)))) + 1)) 136] (
               hl (m_wr (m_wr h13 340 (m_w32 (88 + (m_w32 (3 * w10)))) (m_rd h2 334 10)) 340 (m_w32 ((m_w32 (88 + (m_w32 (3 * w10)))) + 1)) (m_rd h6 334 10)) (fun h14 =>
                gd [IB (m_w32 ((m_w32 (88 + (m_w32 (3 * w10)))) + 2)) 136] (
                 hl (m_wr h14 340 (m_w32 ((m_w32 (88 + (m_w32 (3 * w10)))) + 2)) (m_rd h14 334 10)) (fun h15 =>
                  some (1, h15))))))) (fun j12 =>
             (if w10 = (m_rd h11 340 4) then
              j12 (m_wr h11 340 4 (m_w32 ((m_rd h11 340 4) + 1)))
             else
              j12 h11))) FU 0 h8))))))))))))))
theorem DX12_isPlanHere {d : Nat} {a1 : Int} {h : MH} {r : Int × MH} (hL : LR h) (hF : GX12_isPlanHere a1 h = some r) : RN xs L iX12_isPlanHere (d + 2) 0 (lvE 0 [.inr (.inr 334), .inl a1]) [] h (RIo r) ∧ LR r.2 ∧ KD h r.2 := by
  unfold GX12_isPlanHere at hF
  have hK : KD h h := KD.rf
  show RK xs L iX12_isPlanHere (d + 2) 0 (lvE 0 [.inr (.inr 334), .inl a1]) [] h (RIo r) h r.2
  refine RK.of (RN.blk (ops := [(0, .aload_n 0)]) (pc' := 1) (lv' := [(0, .inr (.inr 334)), (1, .inl a1)]) (st' := [.inr (.inr 334)]) (h' := h) (cs := []) (by decide +kernel) rfl trivial) ?_
  refine RK.of (RN.gr (i := 26) (ci := 12) (k := 7) (fn := true) (v := 340) (by decide +kernel) rfl (TO.gk (o_334 hL)) (hL.fa (v := 340) 7 1 136 (o_334 hL) rfl (by decide) rfl (by decide)).1) ?_
  refine RK.of (RN.blk (ops := [(4, .iconst 4), (5, .iaload), (6, .bipush 12)]) (pc' := 8) (lv' := [(0, .inr (.inr 334)), (1, .inl a1)]) (st' := [.inl 12, .inl (m_rd h 340 4)]) (h' := h) (cs := [GI h 340 1 4]) (by decide +kernel) rfl ⟨(a_340 hL).gi (by decide) (by decide), trivial⟩) ?_
  rcases it_of hF with ⟨hb, hF⟩ | ⟨hb, hF⟩
  · refine RK.of (RN.icf (cd := .ne) (off := 10) (tgt := 18) (by decide +kernel) (mif_nen hb)) ?_
    refine RK.of (RN.blk (ops := [(11, .aload_n 0), (12, .iconst 4), (13, .iload_n 1)]) (pc' := 14) (lv' := [(0, .inr (.inr 334)), (1, .inl a1)]) (st' := [.inl a1, .inl 4, .inr (.inr 334)]) (h' := h) (cs := []) (by decide +kernel) rfl trivial) ?_
    obtain ⟨x17, h16, hG, hF⟩ := bd_of hF
    have hq := rcv_ok (as := [.inl 4, .inl a1]) (TO.gk (o_334 hL))
    obtain ⟨hN, hL, hQ⟩ := DX12_fails (d := d + 1) hL  hG
    refine RK.of (RN.cv (i := 120) (k := 163) (q2 := iX12_fails) (as := [.inr (.inr 334), .inl 4, .inl a1]) (r := []) (v := some (.inl x17)) (h1 := h16) (by decide +kernel) rfl rfl rfl rfl rfl hq hN) ?_
    have hK := hK.tr hQ
    obtain ⟨hc, hF⟩ := gd_of hF
    exact RK.zR (by decide +kernel) rfl hc.1 hL hK hF
  · refine RK.of (RN.ict (cd := .ne) (off := 10) (tgt := 18) (by decide +kernel) (mif_ne hb)) ?_
    refine RK.of (RN.blk (ops := [(18, .aload_n 0)]) (pc' := 19) (lv' := [(0, .inr (.inr 334)), (1, .inl a1)]) (st' := [.inr (.inr 334)]) (h' := h) (cs := []) (by decide +kernel) rfl trivial) ?_
    obtain ⟨h1, hG, hF⟩ := bv_of hF
    have hq := rcv_ok (as := []) (TO.gk (o_334 hL))
    obtain ⟨hN, hL, hQ⟩ := DX12_passWord (d := d) hL  hG
    refine RK.of (RN.cv (i := 114) (k := 168) (q2 := iX12_passWord) (as := [.inr (.inr 334)]) (r := []) (v := none) (h1 := h1) (by decide +kernel) rfl rfl rfl rfl rfl hq hN) ?_
    have hK := hK.tr hQ
    refine RK.of (RN.blk (ops := [(22, .aload_n 0), (23, .iconst 0), (24, .aload_n 0)]) (pc' := 25) (lv' := [(0, .inr (.inr 334)), (1, .inl a1)]) (st' := [.inr (.inr 334), .inl 0, .inr (.inr 334)]) (h' := h1) (cs := []) (by decide +kernel) rfl trivial) ?_
    refine RK.of (RN.gr (i := 26) (ci := 12) (k := 7) (fn := true) (v := 340) (by decide +kernel) rfl (TO.gk (o_334 hL)) (hL.fa (v := 340) 7 1 136 (o_334 hL) rfl (by decide) rfl (by decide)).1) ?_
    refine RK.of (RN.blk (ops := [(28, .iconst 2), (29, .iaload)]) (pc' := 30) (lv' := [(0, .inr (.inr 334)), (1, .inl a1)]) (st' := [.inl (m_rd h1 340 2), .inl 0, .inr (.inr 334)]) (h' := h1) (cs := [GI h1 340 1 2]) (by decide +kernel) rfl ⟨(a_340 hL).gi (by decide) (by decide), trivial⟩) ?_
    obtain ⟨x3, h2, hG, hF⟩ := bd_of hF
    have hq := rcv_ok (as := [.inl 0, .inl (m_rd h1 340 2)]) (TO.gk (o_334 hL))
    obtain ⟨hN, hL, hQ⟩ := DX12_numberHere (d := d) hL  hG
    refine RK.of (RN.cv (i := 174) (k := 170) (q2 := iX12_numberHere) (as := [.inr (.inr 334), .inl 0, .inl (m_rd h1 340 2)]) (r := []) (v := some (.inl x3)) (h1 := h2) (by decide +kernel) rfl rfl rfl rfl rfl hq hN) ?_
    have hK := hK.tr hQ
    rcases it_of hF with ⟨hb, hF⟩ | ⟨hb, hF⟩
    · refine RK.of (RN.iff (cd := .ne) (off := 5) (tgt := 38) (by decide +kernel) (mif_nen hb)) ?_
      refine RK.of (RN.blk (ops := [(36, .iconst 0)]) (pc' := 37) (lv' := [(0, .inr (.inr 334)), (1, .inl a1)]) (st' := [.inl 0]) (h' := h2) (cs := []) (by decide +kernel) rfl trivial) ?_
      exact RK.zR (by decide +kernel) rfl (Or.inl rfl) hL hK hF
    · refine RK.of (RN.ift (cd := .ne) (off := 5) (tgt := 38) (by decide +kernel) (mif_ne hb)) ?_
      refine RK.of (RN.blk (ops := [(38, .aload_n 0), (39, .getfield 124), (42, .istore_n 2), (43, .aload_n 0), (44, .iconst 0), (45, .aload_n 0)]) (pc' := 46) (lv' := [(2, .inl (m_rd h2 334 10)), (0, .inr (.inr 334)), (1, .inl a1)]) (st' := [.inr (.inr 334), .inl 0, .inr (.inr 334)]) (h' := h2) (cs := [GK h2 334 12]) (by decide +kernel) rfl ⟨(o_334 hL).gk, trivial⟩) ?_
      refine RK.of (RN.gr (i := 26) (ci := 12) (k := 7) (fn := true) (v := 340) (by decide +kernel) rfl (TO.gk (o_334 hL)) (hL.fa (v := 340) 7 1 136 (o_334 hL) rfl (by decide) rfl (by decide)).1) ?_
      refine RK.of (RN.blk (ops := [(49, .iconst 1), (50, .iaload), (51, .iload_n 2)]) (pc' := 52) (lv' := [(2, .inl (m_rd h2 334 10)), (0, .inr (.inr 334)), (1, .inl a1)]) (st' := [.inl (m_rd h2 334 10), .inl (m_rd h2 340 1), .inl 0, .inr (.inr 334)]) (h' := h2) (cs := [GI h2 340 1 1]) (by decide +kernel) rfl ⟨(a_340 hL).gi (by decide) (by decide), trivial⟩) ?_
      obtain ⟨x5, h4, hG, hF⟩ := bd_of hF
      obtain ⟨hN, hL, hQ⟩ := DX12_power (d := d + 1) hL  hG
      refine RK.of (RN.cst (i := 229) (k := 159) (q2 := iX12_power) (as := [.inl (m_rd h2 340 1), .inl (m_rd h2 334 10)]) (r := [.inl 0, .inr (.inr 334)]) (v := some (.inl x5)) (h1 := h4) (by decide +kernel) rfl rfl rfl rfl rfl hN) ?_
      have hK := hK.tr hQ
      refine RK.of (RN.blk (ops := [(55, .iconst 1), (56, .isub)]) (pc' := 57) (lv' := [(2, .inl (m_rd h2 334 10)), (0, .inr (.inr 334)), (1, .inl a1)]) (st' := [.inl (m_w32 (x5 - 1)), .inl 0, .inr (.inr 334)]) (h' := h4) (cs := []) (by decide +kernel) rfl trivial) ?_
      obtain ⟨x7, h6, hG, hF⟩ := bd_of hF
      have hq := rcv_ok (as := [.inl 0, .inl (m_w32 (x5 - 1))]) (TO.gk (o_334 hL))
      obtain ⟨hN, hL, hQ⟩ := DX12_numberHere (d := d) hL  hG
      refine RK.of (RN.cv (i := 174) (k := 170) (q2 := iX12_numberHere) (as := [.inr (.inr 334), .inl 0, .inl (m_w32 (x5 - 1))]) (r := []) (v := some (.inl x7)) (h1 := h6) (by decide +kernel) rfl rfl rfl rfl rfl hq hN) ?_
      have hK := hK.tr hQ
      rcases it_of hF with ⟨hb, hF⟩ | ⟨hb, hF⟩
      · refine RK.of (RN.iff (cd := .ne) (off := 5) (tgt := 65) (by decide +kernel) (mif_nen hb)) ?_
        refine RK.of (RN.blk (ops := [(63, .iconst 0)]) (pc' := 64) (lv' := [(2, .inl (m_rd h2 334 10)), (0, .inr (.inr 334)), (1, .inl a1)]) (st' := [.inl 0]) (h' := h6) (cs := []) (by decide +kernel) rfl trivial) ?_
        exact RK.zR (by decide +kernel) rfl (Or.inl rfl) hL hK hF
      · refine RK.of (RN.ift (cd := .ne) (off := 5) (tgt := 65) (by decide +kernel) (mif_ne hb)) ?_
        refine RK.of (RN.blk (ops := [(65, .aload_n 0), (66, .getfield 124), (69, .istore_n 3), (70, .aload_n 0), (71, .iconst 0), (72, .aload_n 0)]) (pc' := 73) (lv' := [(3, .inl (m_rd h6 334 10)), (2, .inl (m_rd h2 334 10)), (0, .inr (.inr 334)), (1, .inl a1)]) (st' := [.inr (.inr 334), .inl 0, .inr (.inr 334)]) (h' := h6) (cs := [GK h6 334 12]) (by decide +kernel) rfl ⟨(o_334 hL).gk, trivial⟩) ?_
        refine RK.of (RN.gr (i := 26) (ci := 12) (k := 7) (fn := true) (v := 340) (by decide +kernel) rfl (TO.gk (o_334 hL)) (hL.fa (v := 340) 7 1 136 (o_334 hL) rfl (by decide) rfl (by decide)).1) ?_
        refine RK.of (RN.blk (ops := [(76, .iconst 3), (77, .iaload), (78, .iconst 1), (79, .isub)]) (pc' := 80) (lv' := [(3, .inl (m_rd h6 334 10)), (2, .inl (m_rd h2 334 10)), (0, .inr (.inr 334)), (1, .inl a1)]) (st' := [.inl (m_w32 ((m_rd h6 340 3) - 1)), .inl 0, .inr (.inr 334)]) (h' := h6) (cs := [GI h6 340 1 3]) (by decide +kernel) rfl ⟨(a_340 hL).gi (by decide) (by decide), trivial⟩) ?_
        obtain ⟨x9, h8, hG, hF⟩ := bd_of hF
        have hq := rcv_ok (as := [.inl 0, .inl (m_w32 ((m_rd h6 340 3) - 1))]) (TO.gk (o_334 hL))
        obtain ⟨hN, hL, hQ⟩ := DX12_numberHere (d := d) hL  hG
        refine RK.of (RN.cv (i := 174) (k := 170) (q2 := iX12_numberHere) (as := [.inr (.inr 334), .inl 0, .inl (m_w32 ((m_rd h6 340 3) - 1))]) (r := []) (v := some (.inl x9)) (h1 := h8) (by decide +kernel) rfl rfl rfl rfl rfl hq hN) ?_
        have hK := hK.tr hQ
        rcases it_of hF with ⟨hb, hF⟩ | ⟨hb, hF⟩
        · refine RK.of (RN.iff (cd := .ne) (off := 5) (tgt := 88) (by decide +kernel) (mif_nen hb)) ?_
          refine RK.of (RN.blk (ops := [(86, .iconst 0)]) (pc' := 87) (lv' := [(3, .inl (m_rd h6 334 10)), (2, .inl (m_rd h2 334 10)), (0, .inr (.inr 334)), (1, .inl a1)]) (st' := [.inl 0]) (h' := h8) (cs := []) (by decide +kernel) rfl trivial) ?_
          exact RK.zR (by decide +kernel) rfl (Or.inl rfl) hL hK hF
        · refine RK.of (RN.ift (cd := .ne) (off := 5) (tgt := 88) (by decide +kernel) (mif_ne hb)) ?_
          refine RK.of (RN.blk (ops := [(88, .iconst 0), (89, .istore 4)]) (pc' := 91) (lv' := [(4, .inl 0), (3, .inl (m_rd h6 334 10)), (2, .inl (m_rd h2 334 10)), (0, .inr (.inr 334)), (1, .inl a1)]) (st' := []) (h' := h8) (cs := []) (by decide +kernel) rfl trivial) ?_
          refine RK.sub (DX12_isPlanHere_L91 hK ?_ _ _ _ hL KD.rf hF) (sub_cons rfl (sub_cons rfl (sub_cons rfl (sub_cons rfl sub_nil))))
          · intro w10 h11 hL hq hF
            have hK := hK.tr hq
            refine RK.of (RN.blk (ops := [(142, .iload 4), (144, .aload_n 0)]) (pc' := 145) (lv' := [(0, .inr (.inr 334)), (2, .inl (m_rd h2 334 10)), (3, .inl (m_rd h6 334 10)), (4, .inl w10)]) (st' := [.inr (.inr 334), .inl w10]) (h' := h11) (cs := []) (by decide +kernel) rfl trivial) ?_
            refine RK.of (RN.gr (i := 26) (ci := 12) (k := 7) (fn := true) (v := 340) (by decide +kernel) rfl (TO.gk (o_334 hL)) (hL.fa (v := 340) 7 1 136 (o_334 hL) rfl (by decide) rfl (by decide)).1) ?_
            refine RK.of (RN.blk (ops := [(148, .iconst 4), (149, .iaload)]) (pc' := 150) (lv' := [(0, .inr (.inr 334)), (2, .inl (m_rd h2 334 10)), (3, .inl (m_rd h6 334 10)), (4, .inl w10)]) (st' := [.inl (m_rd h11 340 4), .inl w10]) (h' := h11) (cs := [GI h11 340 1 4]) (by decide +kernel) rfl ⟨(a_340 hL).gi (by decide) (by decide), trivial⟩) ?_
            refine jn_use (fun j12 => ∀ (h13 : MH), LR h13 → KD h h13 → j12 h13 = some r → RK xs L iX12_isPlanHere (d + 2) 163 [(0, .inr (.inr 334)), (2, .inl (m_rd h2 334 10)), (3, .inl (m_rd h6 334 10)), (4, .inl w10)] [] h13 (RIo r) h r.2) ?_ ?_ hF
            · intro h13 hL hK hF
              refine RK.of (RN.blk (ops := [(163, .aload_n 0)]) (pc' := 164) (lv' := [(0, .inr (.inr 334)), (2, .inl (m_rd h2 334 10)), (3, .inl (m_rd h6 334 10)), (4, .inl w10)]) (st' := [.inr (.inr 334)]) (h' := h13) (cs := []) (by decide +kernel) rfl trivial) ?_
              refine RK.of (RN.gr (i := 26) (ci := 12) (k := 7) (fn := true) (v := 340) (by decide +kernel) rfl (TO.gk (o_334 hL)) (hL.fa (v := 340) 7 1 136 (o_334 hL) rfl (by decide) rfl (by decide)).1) ?_
              obtain ⟨hc, hF⟩ := gd_of hF
              refine RK.of (RN.blk (ops := [(167, .bipush 88), (169, .iconst 3), (170, .iload 4), (172, .imul), (173, .iadd), (174, .iload_n 2), (175, .iastore)]) (pc' := 176) (lv' := [(0, .inr (.inr 334)), (2, .inl (m_rd h2 334 10)), (3, .inl (m_rd h6 334 10)), (4, .inl w10)]) (st' := []) (h' := (m_wr h13 340 (m_w32 (88 + (m_w32 (3 * w10)))) (m_rd h2 334 10))) (cs := [GI h13 340 1 (m_w32 (88 + (m_w32 (3 * w10))))]) (by decide +kernel) rfl ⟨(a_340 hL).gi hc.1.1 hc.1.2, trivial⟩) ?_
              have hL : LR (m_wr h13 340 (m_w32 (88 + (m_w32 (3 * w10)))) (m_rd h2 334 10)) := hL.wa (TA.le5 (a_340 hL) (by decide))
              have hK := hK.tr (KD.wr : KD h13 (m_wr h13 340 (m_w32 (88 + (m_w32 (3 * w10)))) (m_rd h2 334 10)))
              refine RK.of (RN.blk (ops := [(176, .aload_n 0)]) (pc' := 177) (lv' := [(0, .inr (.inr 334)), (2, .inl (m_rd h2 334 10)), (3, .inl (m_rd h6 334 10)), (4, .inl w10)]) (st' := [.inr (.inr 334)]) (h' := (m_wr h13 340 (m_w32 (88 + (m_w32 (3 * w10)))) (m_rd h2 334 10))) (cs := []) (by decide +kernel) rfl trivial) ?_
              refine RK.of (RN.gr (i := 26) (ci := 12) (k := 7) (fn := true) (v := 340) (by decide +kernel) rfl (TO.gk (o_334 hL)) (hL.fa (v := 340) 7 1 136 (o_334 hL) rfl (by decide) rfl (by decide)).1) ?_
              obtain ⟨hc, hF⟩ := gd_of hF
              refine RK.of (RN.blk (ops := [(180, .bipush 88), (182, .iconst 3), (183, .iload 4), (185, .imul), (186, .iadd), (187, .iconst 1), (188, .iadd), (189, .iload_n 3), (190, .iastore)]) (pc' := 191) (lv' := [(0, .inr (.inr 334)), (2, .inl (m_rd h2 334 10)), (3, .inl (m_rd h6 334 10)), (4, .inl w10)]) (st' := []) (h' := (m_wr (m_wr h13 340 (m_w32 (88 + (m_w32 (3 * w10)))) (m_rd h2 334 10)) 340 (m_w32 ((m_w32 (88 + (m_w32 (3 * w10)))) + 1)) (m_rd h6 334 10))) (cs := [GI (m_wr h13 340 (m_w32 (88 + (m_w32 (3 * w10)))) (m_rd h2 334 10)) 340 1 (m_w32 ((m_w32 (88 + (m_w32 (3 * w10)))) + 1))]) (by decide +kernel) rfl ⟨(a_340 hL).gi hc.1.1 hc.1.2, trivial⟩) ?_
              have hL : LR (m_wr (m_wr h13 340 (m_w32 (88 + (m_w32 (3 * w10)))) (m_rd h2 334 10)) 340 (m_w32 ((m_w32 (88 + (m_w32 (3 * w10)))) + 1)) (m_rd h6 334 10)) := hL.wa (TA.le5 (a_340 hL) (by decide))
              have hK := hK.tr (KD.wr : KD (m_wr h13 340 (m_w32 (88 + (m_w32 (3 * w10)))) (m_rd h2 334 10)) (m_wr (m_wr h13 340 (m_w32 (88 + (m_w32 (3 * w10)))) (m_rd h2 334 10)) 340 (m_w32 ((m_w32 (88 + (m_w32 (3 * w10)))) + 1)) (m_rd h6 334 10)))
              obtain ⟨h14, he, hF⟩ := hl_of hF
              refine RK.of (RN.hl he) ?_
              rw [← he] at hL hK
              refine RK.of (RN.blk (ops := [(191, .aload_n 0)]) (pc' := 192) (lv' := [(0, .inr (.inr 334)), (2, .inl (m_rd h2 334 10)), (3, .inl (m_rd h6 334 10)), (4, .inl w10)]) (st' := [.inr (.inr 334)]) (h' := h14) (cs := []) (by decide +kernel) rfl trivial) ?_
              refine RK.of (RN.gr (i := 26) (ci := 12) (k := 7) (fn := true) (v := 340) (by decide +kernel) rfl (TO.gk (o_334 hL)) (hL.fa (v := 340) 7 1 136 (o_334 hL) rfl (by decide) rfl (by decide)).1) ?_
              obtain ⟨hc, hF⟩ := gd_of hF
              refine RK.of (RN.blk (ops := [(195, .bipush 88), (197, .iconst 3), (198, .iload 4), (200, .imul), (201, .iadd), (202, .iconst 2), (203, .iadd), (204, .aload_n 0), (205, .getfield 124), (208, .iastore)]) (pc' := 209) (lv' := [(0, .inr (.inr 334)), (2, .inl (m_rd h2 334 10)), (3, .inl (m_rd h6 334 10)), (4, .inl w10)]) (st' := []) (h' := (m_wr h14 340 (m_w32 ((m_w32 (88 + (m_w32 (3 * w10)))) + 2)) (m_rd h14 334 10))) (cs := [GK h14 334 12, GI h14 340 1 (m_w32 ((m_w32 (88 + (m_w32 (3 * w10)))) + 2))]) (by decide +kernel) rfl ⟨(o_334 hL).gk, (a_340 hL).gi hc.1.1 hc.1.2, trivial⟩) ?_
              have hL : LR (m_wr h14 340 (m_w32 ((m_w32 (88 + (m_w32 (3 * w10)))) + 2)) (m_rd h14 334 10)) := hL.wa (TA.le5 (a_340 hL) (by decide))
              have hK := hK.tr (KD.wr : KD h14 (m_wr h14 340 (m_w32 ((m_w32 (88 + (m_w32 (3 * w10)))) + 2)) (m_rd h14 334 10)))
              obtain ⟨h15, he, hF⟩ := hl_of hF
              refine RK.of (RN.hl he) ?_
              rw [← he] at hL hK
              refine RK.of (RN.blk (ops := [(209, .iconst 1)]) (pc' := 210) (lv' := [(0, .inr (.inr 334)), (2, .inl (m_rd h2 334 10)), (3, .inl (m_rd h6 334 10)), (4, .inl w10)]) (st' := [.inl 1]) (h' := h15) (cs := []) (by decide +kernel) rfl trivial) ?_
              exact RK.zR (by decide +kernel) rfl (Or.inr rfl) hL hK hF
            · intro j12 Jj12 hF
              rcases it_of hF with ⟨hb, hF⟩ | ⟨hb, hF⟩
              · refine RK.of (RN.icf (cd := .ne) (off := 13) (tgt := 163) (by decide +kernel) (mif_nen hb)) ?_
                refine RK.of (RN.blk (ops := [(153, .aload_n 0)]) (pc' := 154) (lv' := [(0, .inr (.inr 334)), (2, .inl (m_rd h2 334 10)), (3, .inl (m_rd h6 334 10)), (4, .inl w10)]) (st' := [.inr (.inr 334)]) (h' := h11) (cs := []) (by decide +kernel) rfl trivial) ?_
                refine RK.of (RN.gr (i := 26) (ci := 12) (k := 7) (fn := true) (v := 340) (by decide +kernel) rfl (TO.gk (o_334 hL)) (hL.fa (v := 340) 7 1 136 (o_334 hL) rfl (by decide) rfl (by decide)).1) ?_
                refine RK.of (RN.blk (ops := [(157, .iconst 4), (158, .dup2), (159, .iaload), (160, .iconst 1), (161, .iadd), (162, .iastore)]) (pc' := 163) (lv' := [(0, .inr (.inr 334)), (2, .inl (m_rd h2 334 10)), (3, .inl (m_rd h6 334 10)), (4, .inl w10)]) (st' := []) (h' := (m_wr h11 340 4 (m_w32 ((m_rd h11 340 4) + 1)))) (cs := [GI h11 340 1 4, GI h11 340 1 4]) (by decide +kernel) rfl ⟨(a_340 hL).gi (by decide) (by decide), (a_340 hL).gi (by decide) (by decide), trivial⟩) ?_
                have hL : LR (m_wr h11 340 4 (m_w32 ((m_rd h11 340 4) + 1))) := hL.wa (TA.le5 (a_340 hL) (by decide))
                have hK := hK.tr (KD.wr : KD h11 (m_wr h11 340 4 (m_w32 ((m_rd h11 340 4) + 1))))
                exact RK.sub (Jj12 _ hL hK hF) (sub_cons rfl (sub_cons rfl (sub_cons rfl (sub_cons rfl sub_nil))))
              · refine RK.of (RN.ict (cd := .ne) (off := 13) (tgt := 163) (by decide +kernel) (mif_ne hb)) ?_
                exact RK.sub (Jj12 _ hL hK hF) (sub_cons rfl (sub_cons rfl (sub_cons rfl (sub_cons rfl sub_nil))))
noncomputable def GX12_isLetterToldHere (a1 : Int) (h : MH) : Option (Int × MH) :=
  (if (m_rd h 340 5) = 12 then
   (bd (GX12_fails 4 a1 h) (fun x7 h6 =>
    gd [GT x7] (some (x7, h6))))
  else
   (bv (GX12_passWord h) (fun h1 =>
    (bd (GX12_power (m_rd h1 340 1) (m_rd h1 340 2) h1) (fun x3 h2 =>
     (bd (GX12_cellHere (m_w32 (124 + (m_rd h1 340 5))) 0 (m_w32 (x3 - 1)) h2) (fun x5 h4 =>
      (if x5 = 0 then
       some (0, h4)
      else
       some (1, (m_wr h4 340 5 (m_w32 ((m_rd h4 340 5) + 1))))))))))))
theorem DX12_isLetterToldHere {d : Nat} {a1 : Int} {h : MH} {r : Int × MH} (hL : LR h) (hF : GX12_isLetterToldHere a1 h = some r) : RN xs L iX12_isLetterToldHere (d + 3) 0 (lvE 0 [.inr (.inr 334), .inl a1]) [] h (RIo r) ∧ LR r.2 ∧ KD h r.2 := by
  unfold GX12_isLetterToldHere at hF
  have hK : KD h h := KD.rf
  show RK xs L iX12_isLetterToldHere (d + 3) 0 (lvE 0 [.inr (.inr 334), .inl a1]) [] h (RIo r) h r.2
  refine RK.of (RN.blk (ops := [(0, .aload_n 0)]) (pc' := 1) (lv' := [(0, .inr (.inr 334)), (1, .inl a1)]) (st' := [.inr (.inr 334)]) (h' := h) (cs := []) (by decide +kernel) rfl trivial) ?_
  refine RK.of (RN.gr (i := 26) (ci := 12) (k := 7) (fn := true) (v := 340) (by decide +kernel) rfl (TO.gk (o_334 hL)) (hL.fa (v := 340) 7 1 136 (o_334 hL) rfl (by decide) rfl (by decide)).1) ?_
  refine RK.of (RN.blk (ops := [(4, .iconst 5), (5, .iaload), (6, .bipush 12)]) (pc' := 8) (lv' := [(0, .inr (.inr 334)), (1, .inl a1)]) (st' := [.inl 12, .inl (m_rd h 340 5)]) (h' := h) (cs := [GI h 340 1 5]) (by decide +kernel) rfl ⟨(a_340 hL).gi (by decide) (by decide), trivial⟩) ?_
  rcases it_of hF with ⟨hb, hF⟩ | ⟨hb, hF⟩
  · refine RK.of (RN.icf (cd := .ne) (off := 10) (tgt := 18) (by decide +kernel) (mif_nen hb)) ?_
    refine RK.of (RN.blk (ops := [(11, .aload_n 0), (12, .iconst 4), (13, .iload_n 1)]) (pc' := 14) (lv' := [(0, .inr (.inr 334)), (1, .inl a1)]) (st' := [.inl a1, .inl 4, .inr (.inr 334)]) (h' := h) (cs := []) (by decide +kernel) rfl trivial) ?_
    obtain ⟨x7, h6, hG, hF⟩ := bd_of hF
    have hq := rcv_ok (as := [.inl 4, .inl a1]) (TO.gk (o_334 hL))
    obtain ⟨hN, hL, hQ⟩ := DX12_fails (d := d + 2) hL  hG
    refine RK.of (RN.cv (i := 120) (k := 163) (q2 := iX12_fails) (as := [.inr (.inr 334), .inl 4, .inl a1]) (r := []) (v := some (.inl x7)) (h1 := h6) (by decide +kernel) rfl rfl rfl rfl rfl hq hN) ?_
    have hK := hK.tr hQ
    obtain ⟨hc, hF⟩ := gd_of hF
    exact RK.zR (by decide +kernel) rfl hc.1 hL hK hF
  · refine RK.of (RN.ict (cd := .ne) (off := 10) (tgt := 18) (by decide +kernel) (mif_ne hb)) ?_
    refine RK.of (RN.blk (ops := [(18, .aload_n 0)]) (pc' := 19) (lv' := [(0, .inr (.inr 334)), (1, .inl a1)]) (st' := [.inr (.inr 334)]) (h' := h) (cs := []) (by decide +kernel) rfl trivial) ?_
    obtain ⟨h1, hG, hF⟩ := bv_of hF
    have hq := rcv_ok (as := []) (TO.gk (o_334 hL))
    obtain ⟨hN, hL, hQ⟩ := DX12_passWord (d := d + 1) hL  hG
    refine RK.of (RN.cv (i := 114) (k := 168) (q2 := iX12_passWord) (as := [.inr (.inr 334)]) (r := []) (v := none) (h1 := h1) (by decide +kernel) rfl rfl rfl rfl rfl hq hN) ?_
    have hK := hK.tr hQ
    refine RK.of (RN.blk (ops := [(22, .aload_n 0), (23, .bipush 124), (25, .aload_n 0)]) (pc' := 26) (lv' := [(0, .inr (.inr 334)), (1, .inl a1)]) (st' := [.inr (.inr 334), .inl 124, .inr (.inr 334)]) (h' := h1) (cs := []) (by decide +kernel) rfl trivial) ?_
    refine RK.of (RN.gr (i := 26) (ci := 12) (k := 7) (fn := true) (v := 340) (by decide +kernel) rfl (TO.gk (o_334 hL)) (hL.fa (v := 340) 7 1 136 (o_334 hL) rfl (by decide) rfl (by decide)).1) ?_
    refine RK.of (RN.blk (ops := [(29, .iconst 5), (30, .iaload), (31, .iadd), (32, .iconst 0), (33, .aload_n 0)]) (pc' := 34) (lv' := [(0, .inr (.inr 334)), (1, .inl a1)]) (st' := [.inr (.inr 334), .inl 0, .inl (m_w32 (124 + (m_rd h1 340 5))), .inr (.inr 334)]) (h' := h1) (cs := [GI h1 340 1 5]) (by decide +kernel) rfl ⟨(a_340 hL).gi (by decide) (by decide), trivial⟩) ?_
    refine RK.of (RN.gr (i := 26) (ci := 12) (k := 7) (fn := true) (v := 340) (by decide +kernel) rfl (TO.gk (o_334 hL)) (hL.fa (v := 340) 7 1 136 (o_334 hL) rfl (by decide) rfl (by decide)).1) ?_
    refine RK.of (RN.blk (ops := [(37, .iconst 1), (38, .iaload), (39, .aload_n 0)]) (pc' := 40) (lv' := [(0, .inr (.inr 334)), (1, .inl a1)]) (st' := [.inr (.inr 334), .inl (m_rd h1 340 1), .inl 0, .inl (m_w32 (124 + (m_rd h1 340 5))), .inr (.inr 334)]) (h' := h1) (cs := [GI h1 340 1 1]) (by decide +kernel) rfl ⟨(a_340 hL).gi (by decide) (by decide), trivial⟩) ?_
    refine RK.of (RN.gr (i := 26) (ci := 12) (k := 7) (fn := true) (v := 340) (by decide +kernel) rfl (TO.gk (o_334 hL)) (hL.fa (v := 340) 7 1 136 (o_334 hL) rfl (by decide) rfl (by decide)).1) ?_
    refine RK.of (RN.blk (ops := [(43, .iconst 2), (44, .iaload)]) (pc' := 45) (lv' := [(0, .inr (.inr 334)), (1, .inl a1)]) (st' := [.inl (m_rd h1 340 2), .inl (m_rd h1 340 1), .inl 0, .inl (m_w32 (124 + (m_rd h1 340 5))), .inr (.inr 334)]) (h' := h1) (cs := [GI h1 340 1 2]) (by decide +kernel) rfl ⟨(a_340 hL).gi (by decide) (by decide), trivial⟩) ?_
    obtain ⟨x3, h2, hG, hF⟩ := bd_of hF
    obtain ⟨hN, hL, hQ⟩ := DX12_power (d := d + 2) hL  hG
    refine RK.of (RN.cst (i := 229) (k := 159) (q2 := iX12_power) (as := [.inl (m_rd h1 340 1), .inl (m_rd h1 340 2)]) (r := [.inl 0, .inl (m_w32 (124 + (m_rd h1 340 5))), .inr (.inr 334)]) (v := some (.inl x3)) (h1 := h2) (by decide +kernel) rfl rfl rfl rfl rfl hN) ?_
    have hK := hK.tr hQ
    refine RK.of (RN.blk (ops := [(48, .iconst 1), (49, .isub)]) (pc' := 50) (lv' := [(0, .inr (.inr 334)), (1, .inl a1)]) (st' := [.inl (m_w32 (x3 - 1)), .inl 0, .inl (m_w32 (124 + (m_rd h1 340 5))), .inr (.inr 334)]) (h' := h2) (cs := []) (by decide +kernel) rfl trivial) ?_
    obtain ⟨x5, h4, hG, hF⟩ := bd_of hF
    have hq := rcv_ok (as := [.inl (m_w32 (124 + (m_rd h1 340 5))), .inl 0, .inl (m_w32 (x3 - 1))]) (TO.gk (o_334 hL))
    obtain ⟨hN, hL, hQ⟩ := DX12_cellHere (d := d) hL  hG
    refine RK.of (RN.cv (i := 225) (k := 186) (q2 := iX12_cellHere) (as := [.inr (.inr 334), .inl (m_w32 (124 + (m_rd h1 340 5))), .inl 0, .inl (m_w32 (x3 - 1))]) (r := []) (v := some (.inl x5)) (h1 := h4) (by decide +kernel) rfl rfl rfl rfl rfl hq hN) ?_
    have hK := hK.tr hQ
    rcases it_of hF with ⟨hb, hF⟩ | ⟨hb, hF⟩
    · refine RK.of (RN.iff (cd := .ne) (off := 5) (tgt := 58) (by decide +kernel) (mif_nen hb)) ?_
      refine RK.of (RN.blk (ops := [(56, .iconst 0)]) (pc' := 57) (lv' := [(0, .inr (.inr 334)), (1, .inl a1)]) (st' := [.inl 0]) (h' := h4) (cs := []) (by decide +kernel) rfl trivial) ?_
      exact RK.zR (by decide +kernel) rfl (Or.inl rfl) hL hK hF
    · refine RK.of (RN.ift (cd := .ne) (off := 5) (tgt := 58) (by decide +kernel) (mif_ne hb)) ?_
      refine RK.of (RN.blk (ops := [(58, .aload_n 0)]) (pc' := 59) (lv' := [(0, .inr (.inr 334)), (1, .inl a1)]) (st' := [.inr (.inr 334)]) (h' := h4) (cs := []) (by decide +kernel) rfl trivial) ?_
      refine RK.of (RN.gr (i := 26) (ci := 12) (k := 7) (fn := true) (v := 340) (by decide +kernel) rfl (TO.gk (o_334 hL)) (hL.fa (v := 340) 7 1 136 (o_334 hL) rfl (by decide) rfl (by decide)).1) ?_
      refine RK.of (RN.blk (ops := [(62, .iconst 5), (63, .dup2), (64, .iaload), (65, .iconst 1), (66, .iadd), (67, .iastore)]) (pc' := 68) (lv' := [(0, .inr (.inr 334)), (1, .inl a1)]) (st' := []) (h' := (m_wr h4 340 5 (m_w32 ((m_rd h4 340 5) + 1)))) (cs := [GI h4 340 1 5, GI h4 340 1 5]) (by decide +kernel) rfl ⟨(a_340 hL).gi (by decide) (by decide), (a_340 hL).gi (by decide) (by decide), trivial⟩) ?_
      have hL : LR (m_wr h4 340 5 (m_w32 ((m_rd h4 340 5) + 1))) := hL.wa (TA.le5 (a_340 hL) (by decide))
      have hK := hK.tr (KD.wr : KD h4 (m_wr h4 340 5 (m_w32 ((m_rd h4 340 5) + 1))))
      refine RK.of (RN.blk (ops := [(68, .iconst 1)]) (pc' := 69) (lv' := [(0, .inr (.inr 334)), (1, .inl a1)]) (st' := [.inl 1]) (h' := (m_wr h4 340 5 (m_w32 ((m_rd h4 340 5) + 1)))) (cs := []) (by decide +kernel) rfl trivial) ?_
      exact RK.zR (by decide +kernel) rfl (Or.inr rfl) hL hK hF
noncomputable def GX12_frameLineHere (a1 : Int) (h : MH) : Option (Int × MH) :=
  (bd (GX12_isWord 440005651813 h) (fun x2 h1 =>
   (if x2 = 0 then
    (if (m_rd h1 340 0) = 0 then
     (bd (GX12_fails 4 a1 h1) (fun x14 h13 =>
      gd [GT x14] (some (x14, h13))))
    else
     (bd (GX12_isWord 1919905645 h1) (fun x4 h3 =>
      (if x4 = 0 then
       (bd (GX12_isWord 1886151022 h3) (fun x6 h5 =>
        (if x6 = 0 then
         (bd (GX12_isLetterToldHere a1 h5) (fun x8 h7 =>
          gd [GT x8] (some (x8, h7))))
        else
         (bd (GX12_isPlanHere a1 h5) (fun x10 h9 =>
          gd [GT x10] (some (x10, h9)))))))
      else
       (bd (GX12_isRoomHere h3) (fun x12 h11 =>
        gd [GT x12] (some (x12, h11))))))))
   else
    (bd (GX12_isFrameHere a1 h1) (fun x16 h15 =>
     gd [GT x16] (some (x16, h15)))))))
theorem DX12_frameLineHere {d : Nat} {a1 : Int} {h : MH} {r : Int × MH} (hL : LR h) (hF : GX12_frameLineHere a1 h = some r) : RN xs L iX12_frameLineHere (d + 4) 0 (lvE 0 [.inr (.inr 334), .inl a1]) [] h (RIo r) ∧ LR r.2 ∧ KD h r.2 := by
  unfold GX12_frameLineHere at hF
  have hK : KD h h := KD.rf
  show RK xs L iX12_frameLineHere (d + 4) 0 (lvE 0 [.inr (.inr 334), .inl a1]) [] h (RIo r) h r.2
  refine RK.of (RN.blk (ops := [(0, .aload_n 0), (1, .ldc2_w 233)]) (pc' := 4) (lv' := [(0, .inr (.inr 334)), (1, .inl a1)]) (st' := [.inr (.inl 440005651813), .inr (.inr 334)]) (h' := h) (cs := []) (by decide +kernel) rfl trivial) ?_
  obtain ⟨x2, h1, hG, hF⟩ := bd_of hF
  have hq := rcv_ok (as := [.inr (.inl 440005651813)]) (TO.gk (o_334 hL))
  obtain ⟨hN, hL, hQ⟩ := DX12_isWord (d := d + 2) hL  hG
  refine RK.of (RN.cv (i := 110) (k := 167) (q2 := iX12_isWord) (as := [.inr (.inr 334), .inr (.inl 440005651813)]) (r := []) (v := some (.inl x2)) (h1 := h1) (by decide +kernel) rfl rfl rfl rfl rfl hq hN) ?_
  have hK := hK.tr hQ
  rcases it_of hF with ⟨hb, hF⟩ | ⟨hb, hF⟩
  · refine RK.of (RN.ift (cd := .eq) (off := 9) (tgt := 16) (by decide +kernel) (mif_eq hb)) ?_
    refine RK.of (RN.blk (ops := [(16, .aload_n 0)]) (pc' := 17) (lv' := [(0, .inr (.inr 334)), (1, .inl a1)]) (st' := [.inr (.inr 334)]) (h' := h1) (cs := []) (by decide +kernel) rfl trivial) ?_
    refine RK.of (RN.gr (i := 26) (ci := 12) (k := 7) (fn := true) (v := 340) (by decide +kernel) rfl (TO.gk (o_334 hL)) (hL.fa (v := 340) 7 1 136 (o_334 hL) rfl (by decide) rfl (by decide)).1) ?_
    refine RK.of (RN.blk (ops := [(20, .iconst 0), (21, .iaload)]) (pc' := 22) (lv' := [(0, .inr (.inr 334)), (1, .inl a1)]) (st' := [.inl (m_rd h1 340 0)]) (h' := h1) (cs := [GI h1 340 1 0]) (by decide +kernel) rfl ⟨(a_340 hL).gi (by decide) (by decide), trivial⟩) ?_
    rcases it_of hF with ⟨hb, hF⟩ | ⟨hb, hF⟩
    · refine RK.of (RN.iff (cd := .ne) (off := 10) (tgt := 32) (by decide +kernel) (mif_nen hb)) ?_
      refine RK.of (RN.blk (ops := [(25, .aload_n 0), (26, .iconst 4), (27, .iload_n 1)]) (pc' := 28) (lv' := [(0, .inr (.inr 334)), (1, .inl a1)]) (st' := [.inl a1, .inl 4, .inr (.inr 334)]) (h' := h1) (cs := []) (by decide +kernel) rfl trivial) ?_
      obtain ⟨x14, h13, hG, hF⟩ := bd_of hF
      have hq := rcv_ok (as := [.inl 4, .inl a1]) (TO.gk (o_334 hL))
      obtain ⟨hN, hL, hQ⟩ := DX12_fails (d := d + 3) hL  hG
      refine RK.of (RN.cv (i := 120) (k := 163) (q2 := iX12_fails) (as := [.inr (.inr 334), .inl 4, .inl a1]) (r := []) (v := some (.inl x14)) (h1 := h13) (by decide +kernel) rfl rfl rfl rfl rfl hq hN) ?_
      have hK := hK.tr hQ
      obtain ⟨hc, hF⟩ := gd_of hF
      exact RK.zR (by decide +kernel) rfl hc.1 hL hK hF
    · refine RK.of (RN.ift (cd := .ne) (off := 10) (tgt := 32) (by decide +kernel) (mif_ne hb)) ?_
      refine RK.of (RN.blk (ops := [(32, .aload_n 0), (33, .ldc2_w 143)]) (pc' := 36) (lv' := [(0, .inr (.inr 334)), (1, .inl a1)]) (st' := [.inr (.inl 1919905645), .inr (.inr 334)]) (h' := h1) (cs := []) (by decide +kernel) rfl trivial) ?_
      obtain ⟨x4, h3, hG, hF⟩ := bd_of hF
      have hq := rcv_ok (as := [.inr (.inl 1919905645)]) (TO.gk (o_334 hL))
      obtain ⟨hN, hL, hQ⟩ := DX12_isWord (d := d + 2) hL  hG
      refine RK.of (RN.cv (i := 110) (k := 167) (q2 := iX12_isWord) (as := [.inr (.inr 334), .inr (.inl 1919905645)]) (r := []) (v := some (.inl x4)) (h1 := h3) (by decide +kernel) rfl rfl rfl rfl rfl hq hN) ?_
      have hK := hK.tr hQ
      rcases it_of hF with ⟨hb, hF⟩ | ⟨hb, hF⟩
      · refine RK.of (RN.ift (cd := .eq) (off := 8) (tgt := 47) (by decide +kernel) (mif_eq hb)) ?_
        refine RK.of (RN.blk (ops := [(47, .aload_n 0), (48, .ldc2_w 241)]) (pc' := 51) (lv' := [(0, .inr (.inr 334)), (1, .inl a1)]) (st' := [.inr (.inl 1886151022), .inr (.inr 334)]) (h' := h3) (cs := []) (by decide +kernel) rfl trivial) ?_
        obtain ⟨x6, h5, hG, hF⟩ := bd_of hF
        have hq := rcv_ok (as := [.inr (.inl 1886151022)]) (TO.gk (o_334 hL))
        obtain ⟨hN, hL, hQ⟩ := DX12_isWord (d := d + 2) hL  hG
        refine RK.of (RN.cv (i := 110) (k := 167) (q2 := iX12_isWord) (as := [.inr (.inr 334), .inr (.inl 1886151022)]) (r := []) (v := some (.inl x6)) (h1 := h5) (by decide +kernel) rfl rfl rfl rfl rfl hq hN) ?_
        have hK := hK.tr hQ
        rcases it_of hF with ⟨hb, hF⟩ | ⟨hb, hF⟩
        · refine RK.of (RN.ift (cd := .eq) (off := 11) (tgt := 65) (by decide +kernel) (mif_eq hb)) ?_
          refine RK.of (RN.blk (ops := [(65, .aload_n 0), (66, .iload_n 1)]) (pc' := 67) (lv' := [(0, .inr (.inr 334)), (1, .inl a1)]) (st' := [.inl a1, .inr (.inr 334)]) (h' := h5) (cs := []) (by decide +kernel) rfl trivial) ?_
          obtain ⟨x8, h7, hG, hF⟩ := bd_of hF
          have hq := rcv_ok (as := [.inl a1]) (TO.gk (o_334 hL))
          obtain ⟨hN, hL, hQ⟩ := DX12_isLetterToldHere (d := d) hL  hG
          refine RK.of (RN.cv (i := 246) (k := 190) (q2 := iX12_isLetterToldHere) (as := [.inr (.inr 334), .inl a1]) (r := []) (v := some (.inl x8)) (h1 := h7) (by decide +kernel) rfl rfl rfl rfl rfl hq hN) ?_
          have hK := hK.tr hQ
          obtain ⟨hc, hF⟩ := gd_of hF
          exact RK.zR (by decide +kernel) rfl hc.1 hL hK hF
        · refine RK.of (RN.iff (cd := .eq) (off := 11) (tgt := 65) (by decide +kernel) (mif_eqn hb)) ?_
          refine RK.of (RN.blk (ops := [(57, .aload_n 0), (58, .iload_n 1)]) (pc' := 59) (lv' := [(0, .inr (.inr 334)), (1, .inl a1)]) (st' := [.inl a1, .inr (.inr 334)]) (h' := h5) (cs := []) (by decide +kernel) rfl trivial) ?_
          obtain ⟨x10, h9, hG, hF⟩ := bd_of hF
          have hq := rcv_ok (as := [.inl a1]) (TO.gk (o_334 hL))
          obtain ⟨hN, hL, hQ⟩ := DX12_isPlanHere (d := d + 1) hL  hG
          refine RK.of (RN.cv (i := 243) (k := 189) (q2 := iX12_isPlanHere) (as := [.inr (.inr 334), .inl a1]) (r := []) (v := some (.inl x10)) (h1 := h9) (by decide +kernel) rfl rfl rfl rfl rfl hq hN) ?_
          have hK := hK.tr hQ
          refine RK.of (RN.goto (off := 8) (tgt := 70) (by decide +kernel)) ?_
          obtain ⟨hc, hF⟩ := gd_of hF
          exact RK.zR (by decide +kernel) rfl hc.1 hL hK hF
      · refine RK.of (RN.iff (cd := .eq) (off := 8) (tgt := 47) (by decide +kernel) (mif_eqn hb)) ?_
        refine RK.of (RN.blk (ops := [(42, .aload_n 0)]) (pc' := 43) (lv' := [(0, .inr (.inr 334)), (1, .inl a1)]) (st' := [.inr (.inr 334)]) (h' := h3) (cs := []) (by decide +kernel) rfl trivial) ?_
        obtain ⟨x12, h11, hG, hF⟩ := bd_of hF
        have hq := rcv_ok (as := []) (TO.gk (o_334 hL))
        obtain ⟨hN, hL, hQ⟩ := DX12_isRoomHere (d := d) hL  hG
        refine RK.of (RN.cv (i := 238) (k := 188) (q2 := iX12_isRoomHere) (as := [.inr (.inr 334)]) (r := []) (v := some (.inl x12)) (h1 := h11) (by decide +kernel) rfl rfl rfl rfl rfl hq hN) ?_
        have hK := hK.tr hQ
        obtain ⟨hc, hF⟩ := gd_of hF
        exact RK.zR (by decide +kernel) rfl hc.1 hL hK hF
  · refine RK.of (RN.iff (cd := .eq) (off := 9) (tgt := 16) (by decide +kernel) (mif_eqn hb)) ?_
    refine RK.of (RN.blk (ops := [(10, .aload_n 0), (11, .iload_n 1)]) (pc' := 12) (lv' := [(0, .inr (.inr 334)), (1, .inl a1)]) (st' := [.inl a1, .inr (.inr 334)]) (h' := h1) (cs := []) (by decide +kernel) rfl trivial) ?_
    obtain ⟨x16, h15, hG, hF⟩ := bd_of hF
    have hq := rcv_ok (as := [.inl a1]) (TO.gk (o_334 hL))
    obtain ⟨hN, hL, hQ⟩ := DX12_isFrameHere (d := d) hL  hG
    refine RK.of (RN.cv (i := 235) (k := 187) (q2 := iX12_isFrameHere) (as := [.inr (.inr 334), .inl a1]) (r := []) (v := some (.inl x16)) (h1 := h15) (by decide +kernel) rfl rfl rfl rfl rfl hq hN) ?_
    have hK := hK.tr hQ
    obtain ⟨hc, hF⟩ := gd_of hF
    exact RK.zR (by decide +kernel) rfl hc.1 hL hK hF
noncomputable def GX12_isFrameWord (h : MH) : Option (Int × MH) :=
  (bd (GX12_isWord 440005651813 h) (fun x2 h1 =>
   (if x2 = 0 then
    (bd (GX12_isWord 1919905645 h1) (fun x4 h3 =>
     (if x4 = 0 then
      (bd (GX12_isWord 1886151022 h3) (fun x6 h5 =>
       (if x6 = 0 then
        (bd (GX12_isWord 119183001281906 h5) (fun x8 h7 =>
         (if x8 = 0 then
          some (0, h7)
         else
          some (1, h7))))
       else
        some (1, h5))))
     else
      some (1, h3))))
   else
    some (1, h1))))
theorem DX12_isFrameWord {d : Nat} {h : MH} {r : Int × MH} (hL : LR h) (hF : GX12_isFrameWord h = some r) : RN xs L iX12_isFrameWord (d + 2) 0 (lvE 0 [.inr (.inr 334)]) [] h (RIo r) ∧ LR r.2 ∧ KD h r.2 := by
  unfold GX12_isFrameWord at hF
  have hK : KD h h := KD.rf
  show RK xs L iX12_isFrameWord (d + 2) 0 (lvE 0 [.inr (.inr 334)]) [] h (RIo r) h r.2
  refine RK.of (RN.blk (ops := [(0, .aload_n 0), (1, .ldc2_w 233)]) (pc' := 4) (lv' := [(0, .inr (.inr 334))]) (st' := [.inr (.inl 440005651813), .inr (.inr 334)]) (h' := h) (cs := []) (by decide +kernel) rfl trivial) ?_
  obtain ⟨x2, h1, hG, hF⟩ := bd_of hF
  have hq := rcv_ok (as := [.inr (.inl 440005651813)]) (TO.gk (o_334 hL))
  obtain ⟨hN, hL, hQ⟩ := DX12_isWord (d := d) hL  hG
  refine RK.of (RN.cv (i := 110) (k := 167) (q2 := iX12_isWord) (as := [.inr (.inr 334), .inr (.inl 440005651813)]) (r := []) (v := some (.inl x2)) (h1 := h1) (by decide +kernel) rfl rfl rfl rfl rfl hq hN) ?_
  have hK := hK.tr hQ
  rcases it_of hF with ⟨hb, hF⟩ | ⟨hb, hF⟩
  · refine RK.of (RN.iff (cd := .ne) (off := 33) (tgt := 40) (by decide +kernel) (mif_nen hb)) ?_
    refine RK.of (RN.blk (ops := [(10, .aload_n 0), (11, .ldc2_w 143)]) (pc' := 14) (lv' := [(0, .inr (.inr 334))]) (st' := [.inr (.inl 1919905645), .inr (.inr 334)]) (h' := h1) (cs := []) (by decide +kernel) rfl trivial) ?_
    obtain ⟨x4, h3, hG, hF⟩ := bd_of hF
    have hq := rcv_ok (as := [.inr (.inl 1919905645)]) (TO.gk (o_334 hL))
    obtain ⟨hN, hL, hQ⟩ := DX12_isWord (d := d) hL  hG
    refine RK.of (RN.cv (i := 110) (k := 167) (q2 := iX12_isWord) (as := [.inr (.inr 334), .inr (.inl 1919905645)]) (r := []) (v := some (.inl x4)) (h1 := h3) (by decide +kernel) rfl rfl rfl rfl rfl hq hN) ?_
    have hK := hK.tr hQ
    rcases it_of hF with ⟨hb, hF⟩ | ⟨hb, hF⟩
    · refine RK.of (RN.iff (cd := .ne) (off := 23) (tgt := 40) (by decide +kernel) (mif_nen hb)) ?_
      refine RK.of (RN.blk (ops := [(20, .aload_n 0), (21, .ldc2_w 241)]) (pc' := 24) (lv' := [(0, .inr (.inr 334))]) (st' := [.inr (.inl 1886151022), .inr (.inr 334)]) (h' := h3) (cs := []) (by decide +kernel) rfl trivial) ?_
      obtain ⟨x6, h5, hG, hF⟩ := bd_of hF
      have hq := rcv_ok (as := [.inr (.inl 1886151022)]) (TO.gk (o_334 hL))
      obtain ⟨hN, hL, hQ⟩ := DX12_isWord (d := d) hL  hG
      refine RK.of (RN.cv (i := 110) (k := 167) (q2 := iX12_isWord) (as := [.inr (.inr 334), .inr (.inl 1886151022)]) (r := []) (v := some (.inl x6)) (h1 := h5) (by decide +kernel) rfl rfl rfl rfl rfl hq hN) ?_
      have hK := hK.tr hQ
      rcases it_of hF with ⟨hb, hF⟩ | ⟨hb, hF⟩
      · refine RK.of (RN.iff (cd := .ne) (off := 13) (tgt := 40) (by decide +kernel) (mif_nen hb)) ?_
        refine RK.of (RN.blk (ops := [(30, .aload_n 0), (31, .ldc2_w 249)]) (pc' := 34) (lv' := [(0, .inr (.inr 334))]) (st' := [.inr (.inl 119183001281906), .inr (.inr 334)]) (h' := h5) (cs := []) (by decide +kernel) rfl trivial) ?_
        obtain ⟨x8, h7, hG, hF⟩ := bd_of hF
        have hq := rcv_ok (as := [.inr (.inl 119183001281906)]) (TO.gk (o_334 hL))
        obtain ⟨hN, hL, hQ⟩ := DX12_isWord (d := d) hL  hG
        refine RK.of (RN.cv (i := 110) (k := 167) (q2 := iX12_isWord) (as := [.inr (.inr 334), .inr (.inl 119183001281906)]) (r := []) (v := some (.inl x8)) (h1 := h7) (by decide +kernel) rfl rfl rfl rfl rfl hq hN) ?_
        have hK := hK.tr hQ
        rcases it_of hF with ⟨hb, hF⟩ | ⟨hb, hF⟩
        · refine RK.of (RN.ift (cd := .eq) (off := 7) (tgt := 44) (by decide +kernel) (mif_eq hb)) ?_
          refine RK.of (RN.blk (ops := [(44, .iconst 0)]) (pc' := 45) (lv' := [(0, .inr (.inr 334))]) (st' := [.inl 0]) (h' := h7) (cs := []) (by decide +kernel) rfl trivial) ?_
          exact RK.zR (by decide +kernel) rfl (Or.inl rfl) hL hK hF
        · refine RK.of (RN.iff (cd := .eq) (off := 7) (tgt := 44) (by decide +kernel) (mif_eqn hb)) ?_
          refine RK.of (RN.blk (ops := [(40, .iconst 1)]) (pc' := 41) (lv' := [(0, .inr (.inr 334))]) (st' := [.inl 1]) (h' := h7) (cs := []) (by decide +kernel) rfl trivial) ?_
          refine RK.of (RN.goto (off := 4) (tgt := 45) (by decide +kernel)) ?_
          exact RK.zR (by decide +kernel) rfl (Or.inr rfl) hL hK hF
      · refine RK.of (RN.ift (cd := .ne) (off := 13) (tgt := 40) (by decide +kernel) (mif_ne hb)) ?_
        refine RK.of (RN.blk (ops := [(40, .iconst 1)]) (pc' := 41) (lv' := [(0, .inr (.inr 334))]) (st' := [.inl 1]) (h' := h5) (cs := []) (by decide +kernel) rfl trivial) ?_
        refine RK.of (RN.goto (off := 4) (tgt := 45) (by decide +kernel)) ?_
        exact RK.zR (by decide +kernel) rfl (Or.inr rfl) hL hK hF
    · refine RK.of (RN.ift (cd := .ne) (off := 23) (tgt := 40) (by decide +kernel) (mif_ne hb)) ?_
      refine RK.of (RN.blk (ops := [(40, .iconst 1)]) (pc' := 41) (lv' := [(0, .inr (.inr 334))]) (st' := [.inl 1]) (h' := h3) (cs := []) (by decide +kernel) rfl trivial) ?_
      refine RK.of (RN.goto (off := 4) (tgt := 45) (by decide +kernel)) ?_
      exact RK.zR (by decide +kernel) rfl (Or.inr rfl) hL hK hF
  · refine RK.of (RN.ift (cd := .ne) (off := 33) (tgt := 40) (by decide +kernel) (mif_ne hb)) ?_
    refine RK.of (RN.blk (ops := [(40, .iconst 1)]) (pc' := 41) (lv' := [(0, .inr (.inr 334))]) (st' := [.inl 1]) (h' := h1) (cs := []) (by decide +kernel) rfl trivial) ?_
    refine RK.of (RN.goto (off := 4) (tgt := 45) (by decide +kernel)) ?_
    exact RK.zR (by decide +kernel) rfl (Or.inr rfl) hL hK hF
noncomputable def GX12_clauseHere (h : MH) : Option (Int × MH) :=
  (bd (GX12_see h) (fun x2 h1 =>
   jn (fun (s4 : Int) =>
    jn (fun (h6 : MH) =>
     (bd (GX12_fails 0 (m_rd h1 334 8) h6) (fun x8 h7 =>
      gd [GT x8] (some (x8, h7))))) (fun j5 =>
     jn (fun (h10 : MH) =>
      jn (fun (s12 : Int) =>
       (if (m_rd h10 334 14) = s12 then
        (bd (GX12_fails 4 (m_rd h1 334 8) h10) (fun x18 h17 =>
         gd [GT x18] (some (x18, h17))))
       else
        (if s4 = 0 then
         (bd (GX12_isTakeHere (m_wr h10 334 14 (m_w32 ((m_rd h10 334 14) + 1)))) (fun x14 h13 =>
          gd [GT x14] (some (x14, h13))))
        else
         (bd (GX12_frameLineHere (m_rd h1 334 8) (m_wr h10 334 14 (m_w32 ((m_rd h10 334 14) + 1)))) (fun x16 h15 =>
          gd [GT x16] (some (x16, h15))))))) (fun j11 =>
       (if s4 = 0 then
        j11 12
       else
        j11 40))) (fun j9 =>
      (if s4 = 0 then
       (bd (GX12_isWord 1952541541 h1) (fun x20 h19 =>
        (if x20 = 0 then
         j5 h19
        else
         j9 h19)))
      else
       (bd (GX12_isFrameWord h1) (fun x22 h21 =>
        (if x22 = 0 then
         j5 h21
        else
         j9 h21))))))) (fun j3 =>
    (if (m_rd h1 334 11) = 6 then
     j3 1
    else
     j3 0))))
theorem DX12_clauseHere {d : Nat} {h : MH} {r : Int × MH} (hL : LR h) (hF : GX12_clauseHere h = some r) : RN xs L iX12_clauseHere (d + 10) 0 (lvE 0 [.inr (.inr 334)]) [] h (RIo r) ∧ LR r.2 ∧ KD h r.2 := by
  unfold GX12_clauseHere at hF
  have hK : KD h h := KD.rf
  show RK xs L iX12_clauseHere (d + 10) 0 (lvE 0 [.inr (.inr 334)]) [] h (RIo r) h r.2
  refine RK.of (RN.blk (ops := [(0, .aload_n 0)]) (pc' := 1) (lv' := [(0, .inr (.inr 334))]) (st' := [.inr (.inr 334)]) (h' := h) (cs := []) (by decide +kernel) rfl trivial) ?_
  obtain ⟨x2, h1, hG, hF⟩ := bd_of hF
  have hq := rcv_ok (as := []) (TO.gk (o_334 hL))
  obtain ⟨hN, hL, hQ⟩ := DX12_see (d := d + 9) hL  hG
  refine RK.of (RN.cv (i := 102) (k := 164) (q2 := iX12_see) (as := [.inr (.inr 334)]) (r := []) (v := some (.inl x2)) (h1 := h1) (by decide +kernel) rfl rfl rfl rfl rfl hq hN) ?_
  have hK := hK.tr hQ
  refine RK.of (RN.blk (ops := [(4, .pop), (5, .aload_n 0), (6, .getfield 99), (9, .istore_n 1), (10, .aload_n 0), (11, .getfield 153), (14, .bipush 6)]) (pc' := 16) (lv' := [(1, .inl (m_rd h1 334 8)), (0, .inr (.inr 334))]) (st' := [.inl 6, .inl (m_rd h1 334 11)]) (h' := h1) (cs := [GK h1 334 12, GK h1 334 12]) (by decide +kernel) rfl ⟨(o_334 hL).gk, (o_334 hL).gk, trivial⟩) ?_
  refine jn_use (fun j3 => ∀ (s4 : Int), j3 s4 = some r → RK xs L iX12_clauseHere (d + 10) 24 [(0, .inr (.inr 334)), (1, .inl (m_rd h1 334 8))] [.inl s4] h1 (RIo r) h r.2) ?_ ?_ hF
  · intro s4 hF
    refine RK.of (RN.blk (ops := [(24, .istore_n 2), (25, .iload_n 2)]) (pc' := 26) (lv' := [(2, .inl s4), (0, .inr (.inr 334)), (1, .inl (m_rd h1 334 8))]) (st' := [.inl s4]) (h' := h1) (cs := []) (by decide +kernel) rfl trivial) ?_
    refine jn_use (fun j5 => ∀ (h6 : MH), LR h6 → KD h h6 → j5 h6 = some r → RK xs L iX12_clauseHere (d + 10) 49 [(0, .inr (.inr 334)), (1, .inl (m_rd h1 334 8))] [] h6 (RIo r) h r.2) ?_ ?_ hF
    · intro h6 hL hK hF
      refine RK.of (RN.blk (ops := [(49, .aload_n 0), (50, .iconst 0), (51, .iload_n 1)]) (pc' := 52) (lv' := [(0, .inr (.inr 334)), (1, .inl (m_rd h1 334 8))]) (st' := [.inl (m_rd h1 334 8), .inl 0, .inr (.inr 334)]) (h' := h6) (cs := []) (by decide +kernel) rfl trivial) ?_
      obtain ⟨x8, h7, hG, hF⟩ := bd_of hF
      have hq := rcv_ok (as := [.inl 0, .inl (m_rd h1 334 8)]) (TO.gk (o_334 hL))
      obtain ⟨hN, hL, hQ⟩ := DX12_fails (d := d + 9) hL  hG
      refine RK.of (RN.cv (i := 120) (k := 163) (q2 := iX12_fails) (as := [.inr (.inr 334), .inl 0, .inl (m_rd h1 334 8)]) (r := []) (v := some (.inl x8)) (h1 := h7) (by decide +kernel) rfl rfl rfl rfl rfl hq hN) ?_
      have hK := hK.tr hQ
      obtain ⟨hc, hF⟩ := gd_of hF
      exact RK.zR (by decide +kernel) rfl hc.1 hL hK hF
    · intro j5 Jj5 hF
      refine jn_use (fun j9 => ∀ (h10 : MH), LR h10 → KD h h10 → j9 h10 = some r → RK xs L iX12_clauseHere (d + 10) 56 [(0, .inr (.inr 334)), (1, .inl (m_rd h1 334 8)), (2, .inl s4)] [] h10 (RIo r) h r.2) ?_ ?_ hF
      · intro h10 hL hK hF
        refine RK.of (RN.blk (ops := [(56, .aload_n 0), (57, .getfield 256), (60, .iload_n 2)]) (pc' := 61) (lv' := [(0, .inr (.inr 334)), (1, .inl (m_rd h1 334 8)), (2, .inl s4)]) (st' := [.inl s4, .inl (m_rd h10 334 14)]) (h' := h10) (cs := [GK h10 334 12]) (by decide +kernel) rfl ⟨(o_334 hL).gk, trivial⟩) ?_
        refine jn_use (fun j11 => ∀ (s12 : Int), j11 s12 = some r → RK xs L iX12_clauseHere (d + 10) 71 [(0, .inr (.inr 334)), (1, .inl (m_rd h1 334 8)), (2, .inl s4)] [.inl s12, .inl (m_rd h10 334 14)] h10 (RIo r) h r.2) ?_ ?_ hF
        · intro s12 hF
          rcases it_of hF with ⟨hb, hF⟩ | ⟨hb, hF⟩
          · refine RK.of (RN.icf (cd := .ne) (off := 10) (tgt := 81) (by decide +kernel) (mif_nen hb)) ?_
            refine RK.of (RN.blk (ops := [(74, .aload_n 0), (75, .iconst 4), (76, .iload_n 1)]) (pc' := 77) (lv' := [(0, .inr (.inr 334)), (1, .inl (m_rd h1 334 8)), (2, .inl s4)]) (st' := [.inl (m_rd h1 334 8), .inl 4, .inr (.inr 334)]) (h' := h10) (cs := []) (by decide +kernel) rfl trivial) ?_
            obtain ⟨x18, h17, hG, hF⟩ := bd_of hF
            have hq := rcv_ok (as := [.inl 4, .inl (m_rd h1 334 8)]) (TO.gk (o_334 hL))
            obtain ⟨hN, hL, hQ⟩ := DX12_fails (d := d + 9) hL  hG
            refine RK.of (RN.cv (i := 120) (k := 163) (q2 := iX12_fails) (as := [.inr (.inr 334), .inl 4, .inl (m_rd h1 334 8)]) (r := []) (v := some (.inl x18)) (h1 := h17) (by decide +kernel) rfl rfl rfl rfl rfl hq hN) ?_
            have hK := hK.tr hQ
            obtain ⟨hc, hF⟩ := gd_of hF
            exact RK.zR (by decide +kernel) rfl hc.1 hL hK hF
          · refine RK.of (RN.ict (cd := .ne) (off := 10) (tgt := 81) (by decide +kernel) (mif_ne hb)) ?_
            refine RK.of (RN.blk (ops := [(81, .aload_n 0), (82, .dup), (83, .getfield 256), (86, .iconst 1), (87, .iadd), (88, .putfield 256)]) (pc' := 91) (lv' := [(0, .inr (.inr 334)), (1, .inl (m_rd h1 334 8)), (2, .inl s4)]) (st' := []) (h' := (m_wr h10 334 14 (m_w32 ((m_rd h10 334 14) + 1)))) (cs := [GK h10 334 12, GK h10 334 12]) (by decide +kernel) rfl ⟨(o_334 hL).gk, (o_334 hL).gk, trivial⟩) ?_
            have hL : LR (m_wr h10 334 14 (m_w32 ((m_rd h10 334 14) + 1))) := LR.wf (k := 14) hL (o_334 hL) rfl
            have hK := hK.tr (KD.wr : KD h10 (m_wr h10 334 14 (m_w32 ((m_rd h10 334 14) + 1))))
            refine RK.of (RN.blk (ops := [(91, .iload_n 2)]) (pc' := 92) (lv' := [(0, .inr (.inr 334)), (1, .inl (m_rd h1 334 8)), (2, .inl s4)]) (st' := [.inl s4]) (h' := (m_wr h10 334 14 (m_w32 ((m_rd h10 334 14) + 1)))) (cs := []) (by decide +kernel) rfl trivial) ?_
            rcases it_of hF with ⟨hb, hF⟩ | ⟨hb, hF⟩
            · refine RK.of (RN.ift (cd := .eq) (off := 11) (tgt := 103) (by decide +kernel) (mif_eq hb)) ?_
              refine RK.of (RN.blk (ops := [(103, .aload_n 0)]) (pc' := 104) (lv' := [(0, .inr (.inr 334)), (1, .inl (m_rd h1 334 8)), (2, .inl s4)]) (st' := [.inr (.inr 334)]) (h' := (m_wr h10 334 14 (m_w32 ((m_rd h10 334 14) + 1)))) (cs := []) (by decide +kernel) rfl trivial) ?_
              obtain ⟨x14, h13, hG, hF⟩ := bd_of hF
              have hq := rcv_ok (as := []) (TO.gk (o_334 hL))
              obtain ⟨hN, hL, hQ⟩ := DX12_isTakeHere (d := d) hL  hG
              refine RK.of (RN.cv (i := 262) (k := 185) (q2 := iX12_isTakeHere) (as := [.inr (.inr 334)]) (r := []) (v := some (.inl x14)) (h1 := h13) (by decide +kernel) rfl rfl rfl rfl rfl hq hN) ?_
              have hK := hK.tr hQ
              obtain ⟨hc, hF⟩ := gd_of hF
              exact RK.zR (by decide +kernel) rfl hc.1 hL hK hF
            · refine RK.of (RN.iff (cd := .eq) (off := 11) (tgt := 103) (by decide +kernel) (mif_eqn hb)) ?_
              refine RK.of (RN.blk (ops := [(95, .aload_n 0), (96, .iload_n 1)]) (pc' := 97) (lv' := [(0, .inr (.inr 334)), (1, .inl (m_rd h1 334 8)), (2, .inl s4)]) (st' := [.inl (m_rd h1 334 8), .inr (.inr 334)]) (h' := (m_wr h10 334 14 (m_w32 ((m_rd h10 334 14) + 1)))) (cs := []) (by decide +kernel) rfl trivial) ?_
              obtain ⟨x16, h15, hG, hF⟩ := bd_of hF
              have hq := rcv_ok (as := [.inl (m_rd h1 334 8)]) (TO.gk (o_334 hL))
              obtain ⟨hN, hL, hQ⟩ := DX12_frameLineHere (d := d + 5) hL  hG
              refine RK.of (RN.cv (i := 259) (k := 191) (q2 := iX12_frameLineHere) (as := [.inr (.inr 334), .inl (m_rd h1 334 8)]) (r := []) (v := some (.inl x16)) (h1 := h15) (by decide +kernel) rfl rfl rfl rfl rfl hq hN) ?_
              have hK := hK.tr hQ
              refine RK.of (RN.goto (off := 7) (tgt := 107) (by decide +kernel)) ?_
              obtain ⟨hc, hF⟩ := gd_of hF
              exact RK.zR (by decide +kernel) rfl hc.1 hL hK hF
        · intro j11 Jj11 hF
          rcases it_of hF with ⟨hb, hF⟩ | ⟨hb, hF⟩
          · refine RK.of (RN.ift (cd := .eq) (off := 8) (tgt := 69) (by decide +kernel) (mif_eq hb)) ?_
            refine RK.of (RN.blk (ops := [(69, .bipush 12)]) (pc' := 71) (lv' := [(0, .inr (.inr 334)), (1, .inl (m_rd h1 334 8)), (2, .inl s4)]) (st' := [.inl 12, .inl (m_rd h10 334 14)]) (h' := h10) (cs := []) (by decide +kernel) rfl trivial) ?_
            exact RK.sub (Jj11 _ hF) (sub_cons rfl (sub_cons rfl (sub_cons rfl sub_nil)))
          · refine RK.of (RN.iff (cd := .eq) (off := 8) (tgt := 69) (by decide +kernel) (mif_eqn hb)) ?_
            refine RK.of (RN.blk (ops := [(64, .bipush 40)]) (pc' := 66) (lv' := [(0, .inr (.inr 334)), (1, .inl (m_rd h1 334 8)), (2, .inl s4)]) (st' := [.inl 40, .inl (m_rd h10 334 14)]) (h' := h10) (cs := []) (by decide +kernel) rfl trivial) ?_
            refine RK.of (RN.goto (off := 5) (tgt := 71) (by decide +kernel)) ?_
            exact RK.sub (Jj11 _ hF) (sub_cons rfl (sub_cons rfl (sub_cons rfl sub_nil)))
      · intro j9 Jj9 hF
        rcases it_of hF with ⟨hb, hF⟩ | ⟨hb, hF⟩
        · refine RK.of (RN.ift (cd := .eq) (off := 13) (tgt := 39) (by decide +kernel) (mif_eq hb)) ?_
          refine RK.of (RN.blk (ops := [(39, .aload_n 0), (40, .ldc2_w 254)]) (pc' := 43) (lv' := [(2, .inl s4), (0, .inr (.inr 334)), (1, .inl (m_rd h1 334 8))]) (st' := [.inr (.inl 1952541541), .inr (.inr 334)]) (h' := h1) (cs := []) (by decide +kernel) rfl trivial) ?_
          obtain ⟨x20, h19, hG, hF⟩ := bd_of hF
          have hq := rcv_ok (as := [.inr (.inl 1952541541)]) (TO.gk (o_334 hL))
          obtain ⟨hN, hL, hQ⟩ := DX12_isWord (d := d + 8) hL  hG
          refine RK.of (RN.cv (i := 110) (k := 167) (q2 := iX12_isWord) (as := [.inr (.inr 334), .inr (.inl 1952541541)]) (r := []) (v := some (.inl x20)) (h1 := h19) (by decide +kernel) rfl rfl rfl rfl rfl hq hN) ?_
          have hK := hK.tr hQ
          rcases it_of hF with ⟨hb, hF⟩ | ⟨hb, hF⟩
          · refine RK.of (RN.iff (cd := .ne) (off := 10) (tgt := 56) (by decide +kernel) (mif_nen hb)) ?_
            exact RK.sub (Jj5 _ hL hK hF) (sub_cons rfl (sub_cons rfl sub_nil))
          · refine RK.of (RN.ift (cd := .ne) (off := 10) (tgt := 56) (by decide +kernel) (mif_ne hb)) ?_
            exact RK.sub (Jj9 _ hL hK hF) (sub_cons rfl (sub_cons rfl (sub_cons rfl sub_nil)))
        · refine RK.of (RN.iff (cd := .eq) (off := 13) (tgt := 39) (by decide +kernel) (mif_eqn hb)) ?_
          refine RK.of (RN.blk (ops := [(29, .aload_n 0)]) (pc' := 30) (lv' := [(2, .inl s4), (0, .inr (.inr 334)), (1, .inl (m_rd h1 334 8))]) (st' := [.inr (.inr 334)]) (h' := h1) (cs := []) (by decide +kernel) rfl trivial) ?_
          obtain ⟨x22, h21, hG, hF⟩ := bd_of hF
          have hq := rcv_ok (as := []) (TO.gk (o_334 hL))
          obtain ⟨hN, hL, hQ⟩ := DX12_isFrameWord (d := d + 7) hL  hG
          refine RK.of (RN.cv (i := 251) (k := 192) (q2 := iX12_isFrameWord) (as := [.inr (.inr 334)]) (r := []) (v := some (.inl x22)) (h1 := h21) (by decide +kernel) rfl rfl rfl rfl rfl hq hN) ?_
          have hK := hK.tr hQ
          rcases it_of hF with ⟨hb, hF⟩ | ⟨hb, hF⟩
          · refine RK.of (RN.iff (cd := .ne) (off := 23) (tgt := 56) (by decide +kernel) (mif_nen hb)) ?_
            refine RK.of (RN.goto (off := 13) (tgt := 49) (by decide +kernel)) ?_
            exact RK.sub (Jj5 _ hL hK hF) (sub_cons rfl (sub_cons rfl sub_nil))
          · refine RK.of (RN.ift (cd := .ne) (off := 23) (tgt := 56) (by decide +kernel) (mif_ne hb)) ?_
            exact RK.sub (Jj9 _ hL hK hF) (sub_cons rfl (sub_cons rfl (sub_cons rfl sub_nil)))
  · intro j3 Jj3 hF
    rcases it_of hF with ⟨hb, hF⟩ | ⟨hb, hF⟩
    · refine RK.of (RN.icf (cd := .ne) (off := 7) (tgt := 23) (by decide +kernel) (mif_nen hb)) ?_
      refine RK.of (RN.blk (ops := [(19, .iconst 1)]) (pc' := 20) (lv' := [(1, .inl (m_rd h1 334 8)), (0, .inr (.inr 334))]) (st' := [.inl 1]) (h' := h1) (cs := []) (by decide +kernel) rfl trivial) ?_
      refine RK.of (RN.goto (off := 4) (tgt := 24) (by decide +kernel)) ?_
      exact RK.sub (Jj3 _ hF) (sub_cons rfl (sub_cons rfl sub_nil))
    · refine RK.of (RN.ict (cd := .ne) (off := 7) (tgt := 23) (by decide +kernel) (mif_ne hb)) ?_
      refine RK.of (RN.blk (ops := [(23, .iconst 0)]) (pc' := 24) (lv' := [(1, .inl (m_rd h1 334 8)), (0, .inr (.inr 334))]) (st' := [.inl 0]) (h' := h1) (cs := []) (by decide +kernel) rfl trivial) ?_
      exact RK.sub (Jj3 _ hF) (sub_cons rfl (sub_cons rfl sub_nil))
noncomputable def GX12_readsAll_L35 (K0 : Int → MH → Option (Int × MH)) : Nat → Int → MH → Option (Int × MH)
  | 0, _, _ => none
  | f + 1, v1, h =>
    (if v1 = 0 then
     K0 v1 h
    else
     (bd (GX12_see h) (fun x2 h1 =>
      (if x2 = 59 then
       (bd (GX12_clauseHere (m_wr h1 334 8 (m_w32 ((m_rd h1 334 8) + 1)))) (fun x4 h3 =>
        GX12_readsAll_L35 K0 f x4 h3))
      else
       K0 v1 h1))))
theorem DX12_readsAll_L35 {d : Nat} {K0 : Int → MH → Option (Int × MH)} {r : Int × MH} {h0 hB : MH} (hB0 : KD h0 hB) (hK0 : ∀ (w1 : Int) (h : MH), LR h → KD hB h → K0 w1 h = some r → RK xs L iX12_readsAll (d + 11) 66 [(0, .inr (.inr 334)), (1, .inl w1)] [] h (RIo r) h0 r.2) : ∀ (f : Nat) (v1 : Int) (h : MH), LR h → KD hB h → GX12_readsAll_L35 K0 f v1 h = some r → RK xs L iX12_readsAll (d + 11) 35 [(0, .inr (.inr 334)), (1, .inl v1)] [] h (RIo r) h0 r.2 := by
  intro f
  induction f with
  | zero =>
    intro v1 h hL hJ hF
    cases hF
  | succ f ih =>
    intro v1 h hL hJ hF
    unfold GX12_readsAll_L35 at hF
    have hK := hB0.tr hJ
    refine RK.of (RN.blk (ops := [(35, .iload_n 1)]) (pc' := 36) (lv' := [(0, .inr (.inr 334)), (1, .inl v1)]) (st' := [.inl v1]) (h' := h) (cs := []) (by decide +kernel) rfl trivial) ?_
    rcases it_of hF with ⟨hb, hF⟩ | ⟨hb, hF⟩
    · refine RK.of (RN.ift (cd := .eq) (off := 30) (tgt := 66) (by decide +kernel) (mif_eq hb)) ?_
      exact RK.sub (hK0 _ _ hL hJ hF) (sub_cons rfl (sub_cons rfl sub_nil))
    · refine RK.of (RN.iff (cd := .eq) (off := 30) (tgt := 66) (by decide +kernel) (mif_eqn hb)) ?_
      refine RK.of (RN.blk (ops := [(39, .aload_n 0)]) (pc' := 40) (lv' := [(0, .inr (.inr 334)), (1, .inl v1)]) (st' := [.inr (.inr 334)]) (h' := h) (cs := []) (by decide +kernel) rfl trivial) ?_
      obtain ⟨x2, h1, hG, hF⟩ := bd_of hF
      have hq := rcv_ok (as := []) (TO.gk (o_334 hL))
      obtain ⟨hN, hL, hQ⟩ := DX12_see (d := d + 10) hL  hG
      refine RK.of (RN.cv (i := 102) (k := 164) (q2 := iX12_see) (as := [.inr (.inr 334)]) (r := []) (v := some (.inl x2)) (h1 := h1) (by decide +kernel) rfl rfl rfl rfl rfl hq hN) ?_
      have hK := hK.tr hQ
      have hJ := hJ.tr hQ
      refine RK.of (RN.blk (ops := [(43, .bipush 59)]) (pc' := 45) (lv' := [(0, .inr (.inr 334)), (1, .inl v1)]) (st' := [.inl 59, .inl x2]) (h' := h1) (cs := []) (by decide +kernel) rfl trivial) ?_
      rcases it_of hF with ⟨hb, hF⟩ | ⟨hb, hF⟩
      · refine RK.of (RN.icf (cd := .ne) (off := 21) (tgt := 66) (by decide +kernel) (mif_nen hb)) ?_
        refine RK.of (RN.blk (ops := [(48, .aload_n 0), (49, .dup), (50, .getfield 99), (53, .iconst 1), (54, .iadd), (55, .putfield 99)]) (pc' := 58) (lv' := [(0, .inr (.inr 334)), (1, .inl v1)]) (st' := []) (h' := (m_wr h1 334 8 (m_w32 ((m_rd h1 334 8) + 1)))) (cs := [GK h1 334 12, GK h1 334 12]) (by decide +kernel) rfl ⟨(o_334 hL).gk, (o_334 hL).gk, trivial⟩) ?_
        have hL : LR (m_wr h1 334 8 (m_w32 ((m_rd h1 334 8) + 1))) := LR.wf (k := 8) hL (o_334 hL) rfl
        have hK := hK.tr (KD.wr : KD h1 (m_wr h1 334 8 (m_w32 ((m_rd h1 334 8) + 1))))
        have hJ := hJ.tr (KD.wr : KD h1 (m_wr h1 334 8 (m_w32 ((m_rd h1 334 8) + 1))))
        refine RK.of (RN.blk (ops := [(58, .aload_n 0)]) (pc' := 59) (lv' := [(0, .inr (.inr 334)), (1, .inl v1)]) (st' := [.inr (.inr 334)]) (h' := (m_wr h1 334 8 (m_w32 ((m_rd h1 334 8) + 1)))) (cs := []) (by decide +kernel) rfl trivial) ?_
        obtain ⟨x4, h3, hG, hF⟩ := bd_of hF
        have hq := rcv_ok (as := []) (TO.gk (o_334 hL))
        obtain ⟨hN, hL, hQ⟩ := DX12_clauseHere (d := d) hL  hG
        refine RK.of (RN.cv (i := 265) (k := 193) (q2 := iX12_clauseHere) (as := [.inr (.inr 334)]) (r := []) (v := some (.inl x4)) (h1 := h3) (by decide +kernel) rfl rfl rfl rfl rfl hq hN) ?_
        have hK := hK.tr hQ
        have hJ := hJ.tr hQ
        refine RK.of (RN.blk (ops := [(62, .istore_n 1)]) (pc' := 63) (lv' := [(1, .inl x4), (0, .inr (.inr 334))]) (st' := []) (h' := h3) (cs := []) (by decide +kernel) rfl trivial) ?_
        refine RK.of (RN.goto (off := -28) (tgt := 35) (by decide +kernel)) ?_
        exact RK.sub (ih _ _ hL hJ hF) (sub_cons rfl (sub_cons rfl sub_nil))
      · refine RK.of (RN.ict (cd := .ne) (off := 21) (tgt := 66) (by decide +kernel) (mif_ne hb)) ?_
        exact RK.sub (hK0 _ _ hL hJ hF) (sub_cons rfl (sub_cons rfl sub_nil))
noncomputable def GX12_readsAll (h : MH) : Option (Int × MH) :=
  gd [IB (m_rd h 334 11) 7] (
   hl (m_wr (m_wr (m_wr (m_wr h 337 (m_rd h 334 11) 0) 334 14 0) 334 8 0) 334 9 0) (fun h1 =>
    (bd (GX12_clauseHere (m_wr h1 334 12 0)) (fun x3 h2 =>
     GX12_readsAll_L35 (fun w4 h5 =>
      jn (fun (h7 : MH) =>
       (if (m_rd (m_wr h7 334 1 0) 334 9) = 0 then
        some (1, (m_wr h7 334 1 0))
       else
        some (0, (m_wr h7 334 1 0)))) (fun j6 =>
       (if w4 = 0 then
        j6 h5
       else
        (bd (GX12_see h5) (fun x9 h8 =>
         (if x9 = (-1) then
          j6 h8
         else
          (bd (GX12_fails 0 (m_rd h8 334 8) h8) (fun x11 h10 =>
           j6 h10)))))))) FU x3 h2))))
theorem DX12_readsAll {d : Nat} {h : MH} {r : Int × MH} (hL : LR h) (hF : GX12_readsAll h = some r) : RN xs L iX12_readsAll (d + 11) 0 (lvE 0 [.inr (.inr 334)]) [] h (RIo r) ∧ LR r.2 ∧ KD h r.2 := by
  unfold GX12_readsAll at hF
  have hK : KD h h := KD.rf
  show RK xs L iX12_readsAll (d + 11) 0 (lvE 0 [.inr (.inr 334)]) [] h (RIo r) h r.2
  refine RK.of (RN.blk (ops := [(0, .aload_n 0)]) (pc' := 1) (lv' := [(0, .inr (.inr 334))]) (st' := [.inr (.inr 334)]) (h' := h) (cs := []) (by decide +kernel) rfl trivial) ?_
  refine RK.of (RN.gr (i := 17) (ci := 12) (k := 4) (fn := true) (v := 337) (by decide +kernel) rfl (TO.gk (o_334 hL)) (hL.fa (v := 337) 4 1 7 (o_334 hL) rfl (by decide) rfl (by decide)).1) ?_
  obtain ⟨hc, hF⟩ := gd_of hF
  refine RK.of (RN.blk (ops := [(4, .aload_n 0), (5, .getfield 153), (8, .iconst 0), (9, .iastore)]) (pc' := 10) (lv' := [(0, .inr (.inr 334))]) (st' := []) (h' := (m_wr h 337 (m_rd h 334 11) 0)) (cs := [GK h 334 12, GI h 337 1 (m_rd h 334 11)]) (by decide +kernel) rfl ⟨(o_334 hL).gk, (a_337 hL).gi hc.1.1 hc.1.2, trivial⟩) ?_
  have hL : LR (m_wr h 337 (m_rd h 334 11) 0) := hL.wa (TA.le5 (a_337 hL) (by decide))
  have hK := hK.tr (KD.wr : KD h (m_wr h 337 (m_rd h 334 11) 0))
  refine RK.of (RN.blk (ops := [(10, .aload_n 0), (11, .iconst 0), (12, .putfield 256)]) (pc' := 15) (lv' := [(0, .inr (.inr 334))]) (st' := []) (h' := (m_wr (m_wr h 337 (m_rd h 334 11) 0) 334 14 0)) (cs := [GK (m_wr h 337 (m_rd h 334 11) 0) 334 12]) (by decide +kernel) rfl ⟨(o_334 hL).gk, trivial⟩) ?_
  have hL : LR (m_wr (m_wr h 337 (m_rd h 334 11) 0) 334 14 0) := LR.wf (k := 14) hL (o_334 hL) rfl
  have hK := hK.tr (KD.wr : KD (m_wr h 337 (m_rd h 334 11) 0) (m_wr (m_wr h 337 (m_rd h 334 11) 0) 334 14 0))
  refine RK.of (RN.blk (ops := [(15, .aload_n 0), (16, .iconst 0), (17, .putfield 99)]) (pc' := 20) (lv' := [(0, .inr (.inr 334))]) (st' := []) (h' := (m_wr (m_wr (m_wr h 337 (m_rd h 334 11) 0) 334 14 0) 334 8 0)) (cs := [GK (m_wr (m_wr h 337 (m_rd h 334 11) 0) 334 14 0) 334 12]) (by decide +kernel) rfl ⟨(o_334 hL).gk, trivial⟩) ?_
  have hL : LR (m_wr (m_wr (m_wr h 337 (m_rd h 334 11) 0) 334 14 0) 334 8 0) := LR.wf (k := 8) hL (o_334 hL) rfl
  have hK := hK.tr (KD.wr : KD (m_wr (m_wr h 337 (m_rd h 334 11) 0) 334 14 0) (m_wr (m_wr (m_wr h 337 (m_rd h 334 11) 0) 334 14 0) 334 8 0))
  refine RK.of (RN.blk (ops := [(20, .aload_n 0), (21, .iconst 0), (22, .putfield 96)]) (pc' := 25) (lv' := [(0, .inr (.inr 334))]) (st' := []) (h' := (m_wr (m_wr (m_wr (m_wr h 337 (m_rd h 334 11) 0) 334 14 0) 334 8 0) 334 9 0)) (cs := [GK (m_wr (m_wr (m_wr h 337 (m_rd h 334 11) 0) 334 14 0) 334 8 0) 334 12]) (by decide +kernel) rfl ⟨(o_334 hL).gk, trivial⟩) ?_
  have hL : LR (m_wr (m_wr (m_wr (m_wr h 337 (m_rd h 334 11) 0) 334 14 0) 334 8 0) 334 9 0) := LR.wf (k := 9) hL (o_334 hL) rfl
  have hK := hK.tr (KD.wr : KD (m_wr (m_wr (m_wr h 337 (m_rd h 334 11) 0) 334 14 0) 334 8 0) (m_wr (m_wr (m_wr (m_wr h 337 (m_rd h 334 11) 0) 334 14 0) 334 8 0) 334 9 0))
  obtain ⟨h1, he, hF⟩ := hl_of hF
  refine RK.of (RN.hl he) ?_
  rw [← he] at hL hK
  refine RK.of (RN.blk (ops := [(25, .aload_n 0), (26, .iconst 0), (27, .putfield 156)]) (pc' := 30) (lv' := [(0, .inr (.inr 334))]) (st' := []) (h' := (m_wr h1 334 12 0)) (cs := [GK h1 334 12]) (by decide +kernel) rfl ⟨(o_334 hL).gk, trivial⟩) ?_
  have hL : LR (m_wr h1 334 12 0) := LR.wf (k := 12) hL (o_334 hL) rfl
  have hK := hK.tr (KD.wr : KD h1 (m_wr h1 334 12 0))
  refine RK.of (RN.blk (ops := [(30, .aload_n 0)]) (pc' := 31) (lv' := [(0, .inr (.inr 334))]) (st' := [.inr (.inr 334)]) (h' := (m_wr h1 334 12 0)) (cs := []) (by decide +kernel) rfl trivial) ?_
  obtain ⟨x3, h2, hG, hF⟩ := bd_of hF
  have hq := rcv_ok (as := []) (TO.gk (o_334 hL))
  obtain ⟨hN, hL, hQ⟩ := DX12_clauseHere (d := d) hL  hG
  refine RK.of (RN.cv (i := 265) (k := 193) (q2 := iX12_clauseHere) (as := [.inr (.inr 334)]) (r := []) (v := some (.inl x3)) (h1 := h2) (by decide +kernel) rfl rfl rfl rfl rfl hq hN) ?_
  have hK := hK.tr hQ
  refine RK.of (RN.blk (ops := [(34, .istore_n 1)]) (pc' := 35) (lv' := [(1, .inl x3), (0, .inr (.inr 334))]) (st' := []) (h' := h2) (cs := []) (by decide +kernel) rfl trivial) ?_
  refine RK.sub (DX12_readsAll_L35 hK ?_ _ _ _ hL KD.rf hF) (sub_cons rfl (sub_cons rfl sub_nil))
  · intro w4 h5 hL hq hF
    have hK := hK.tr hq
    refine RK.of (RN.blk (ops := [(66, .iload_n 1)]) (pc' := 67) (lv' := [(0, .inr (.inr 334)), (1, .inl w4)]) (st' := [.inl w4]) (h' := h5) (cs := []) (by decide +kernel) rfl trivial) ?_
    refine jn_use (fun j6 => ∀ (h7 : MH), LR h7 → KD h h7 → j6 h7 = some r → RK xs L iX12_readsAll (d + 11) 88 [(0, .inr (.inr 334))] [] h7 (RIo r) h r.2) ?_ ?_ hF
    · intro h7 hL hK hF
      refine RK.of (RN.blk (ops := [(88, .aload_n 0), (89, .iconst 0), (90, .putfield 89)]) (pc' := 93) (lv' := [(0, .inr (.inr 334))]) (st' := []) (h' := (m_wr h7 334 1 0)) (cs := [GK h7 334 12]) (by decide +kernel) rfl ⟨(o_334 hL).gk, trivial⟩) ?_
      have hL : LR (m_wr h7 334 1 0) := LR.wf (k := 1) hL (o_334 hL) rfl
      have hK := hK.tr (KD.wr : KD h7 (m_wr h7 334 1 0))
      refine RK.of (RN.blk (ops := [(93, .aload_n 0), (94, .getfield 96)]) (pc' := 97) (lv' := [(0, .inr (.inr 334))]) (st' := [.inl (m_rd (m_wr h7 334 1 0) 334 9)]) (h' := (m_wr h7 334 1 0)) (cs := [GK (m_wr h7 334 1 0) 334 12]) (by decide +kernel) rfl ⟨(o_334 hL).gk, trivial⟩) ?_
      rcases it_of hF with ⟨hb, hF⟩ | ⟨hb, hF⟩
      · refine RK.of (RN.iff (cd := .ne) (off := 7) (tgt := 104) (by decide +kernel) (mif_nen hb)) ?_
        refine RK.of (RN.blk (ops := [(100, .iconst 1)]) (pc' := 101) (lv' := [(0, .inr (.inr 334))]) (st' := [.inl 1]) (h' := (m_wr h7 334 1 0)) (cs := []) (by decide +kernel) rfl trivial) ?_
        refine RK.of (RN.goto (off := 4) (tgt := 105) (by decide +kernel)) ?_
        exact RK.zR (by decide +kernel) rfl (Or.inr rfl) hL hK hF
      · refine RK.of (RN.ift (cd := .ne) (off := 7) (tgt := 104) (by decide +kernel) (mif_ne hb)) ?_
        refine RK.of (RN.blk (ops := [(104, .iconst 0)]) (pc' := 105) (lv' := [(0, .inr (.inr 334))]) (st' := [.inl 0]) (h' := (m_wr h7 334 1 0)) (cs := []) (by decide +kernel) rfl trivial) ?_
        exact RK.zR (by decide +kernel) rfl (Or.inl rfl) hL hK hF
    · intro j6 Jj6 hF
      rcases it_of hF with ⟨hb, hF⟩ | ⟨hb, hF⟩
      · refine RK.of (RN.ift (cd := .eq) (off := 21) (tgt := 88) (by decide +kernel) (mif_eq hb)) ?_
        exact RK.sub (Jj6 _ hL hK hF) (sub_cons rfl sub_nil)
      · refine RK.of (RN.iff (cd := .eq) (off := 21) (tgt := 88) (by decide +kernel) (mif_eqn hb)) ?_
        refine RK.of (RN.blk (ops := [(70, .aload_n 0)]) (pc' := 71) (lv' := [(0, .inr (.inr 334)), (1, .inl w4)]) (st' := [.inr (.inr 334)]) (h' := h5) (cs := []) (by decide +kernel) rfl trivial) ?_
        obtain ⟨x9, h8, hG, hF⟩ := bd_of hF
        have hq := rcv_ok (as := []) (TO.gk (o_334 hL))
        obtain ⟨hN, hL, hQ⟩ := DX12_see (d := d + 10) hL  hG
        refine RK.of (RN.cv (i := 102) (k := 164) (q2 := iX12_see) (as := [.inr (.inr 334)]) (r := []) (v := some (.inl x9)) (h1 := h8) (by decide +kernel) rfl rfl rfl rfl rfl hq hN) ?_
        have hK := hK.tr hQ
        refine RK.of (RN.blk (ops := [(74, .iconst (-1))]) (pc' := 75) (lv' := [(0, .inr (.inr 334)), (1, .inl w4)]) (st' := [.inl (-1), .inl x9]) (h' := h8) (cs := []) (by decide +kernel) rfl trivial) ?_
        rcases it_of hF with ⟨hb, hF⟩ | ⟨hb, hF⟩
        · refine RK.of (RN.ict (cd := .eq) (off := 13) (tgt := 88) (by decide +kernel) (mif_eq hb)) ?_
          exact RK.sub (Jj6 _ hL hK hF) (sub_cons rfl sub_nil)
        · refine RK.of (RN.icf (cd := .eq) (off := 13) (tgt := 88) (by decide +kernel) (mif_eqn hb)) ?_
          refine RK.of (RN.blk (ops := [(78, .aload_n 0), (79, .iconst 0), (80, .aload_n 0), (81, .getfield 99)]) (pc' := 84) (lv' := [(0, .inr (.inr 334)), (1, .inl w4)]) (st' := [.inl (m_rd h8 334 8), .inl 0, .inr (.inr 334)]) (h' := h8) (cs := [GK h8 334 12]) (by decide +kernel) rfl ⟨(o_334 hL).gk, trivial⟩) ?_
          obtain ⟨x11, h10, hG, hF⟩ := bd_of hF
          have hq := rcv_ok (as := [.inl 0, .inl (m_rd h8 334 8)]) (TO.gk (o_334 hL))
          obtain ⟨hN, hL, hQ⟩ := DX12_fails (d := d + 10) hL  hG
          refine RK.of (RN.cv (i := 120) (k := 163) (q2 := iX12_fails) (as := [.inr (.inr 334), .inl 0, .inl (m_rd h8 334 8)]) (r := []) (v := some (.inl x11)) (h1 := h10) (by decide +kernel) rfl rfl rfl rfl rfl hq hN) ?_
          have hK := hK.tr hQ
          refine RK.of (RN.blk (ops := [(87, .pop)]) (pc' := 88) (lv' := [(0, .inr (.inr 334)), (1, .inl w4)]) (st' := []) (h' := h10) (cs := []) (by decide +kernel) rfl trivial) ?_
          exact RK.sub (Jj6 _ hL hK hF) (sub_cons rfl sub_nil)
noncomputable def GX12_rule (h : MH) : Option (Int × MH) :=
  (if (m_rd h 334 2) = 6 then
   some ((-1), h)
  else
   gd [IB (m_rd (m_wr h 334 11 (m_rd h 334 2)) 334 11) 6] (
    hl (m_wr (m_wr h 334 11 (m_rd h 334 2)) 339 (m_rd (m_wr h 334 11 (m_rd h 334 2)) 334 11) 0) (fun h1 =>
     (bd (GX12_readsAll h1) (fun x3 h2 =>
      (if x3 = 0 then
       some ((m_w32 ((-2) - (m_rd h2 334 9))), h2)
      else
       some ((m_w32 ((m_rd (m_wr h2 334 2 (m_w32 ((m_rd h2 334 2) + 1))) 334 2) - 1)), (m_wr h2 334 2 (m_w32 ((m_rd h2 334 2) + 1))))))))))
theorem DX12_rule {d : Nat} {h : MH} {r : Int × MH} (hL : LR h) (hF : GX12_rule h = some r) : RN xs L iX12_rule (d + 12) 0 (lvE 0 [.inr (.inr 334)]) [] h (RIo r) ∧ LR r.2 ∧ KD h r.2 := by
  unfold GX12_rule at hF
  have hK : KD h h := KD.rf
  show RK xs L iX12_rule (d + 12) 0 (lvE 0 [.inr (.inr 334)]) [] h (RIo r) h r.2
  refine RK.of (RN.blk (ops := [(0, .aload_n 0), (1, .getfield 268), (4, .bipush 6)]) (pc' := 6) (lv' := [(0, .inr (.inr 334))]) (st' := [.inl 6, .inl (m_rd h 334 2)]) (h' := h) (cs := [GK h 334 12]) (by decide +kernel) rfl ⟨(o_334 hL).gk, trivial⟩) ?_
  rcases it_of hF with ⟨hb, hF⟩ | ⟨hb, hF⟩
  · refine RK.of (RN.icf (cd := .ne) (off := 5) (tgt := 11) (by decide +kernel) (mif_nen hb)) ?_
    refine RK.of (RN.blk (ops := [(9, .iconst (-1))]) (pc' := 10) (lv' := [(0, .inr (.inr 334))]) (st' := [.inl (-1)]) (h' := h) (cs := []) (by decide +kernel) rfl trivial) ?_
    exact RK.iR (by decide +kernel) rfl hL hK hF
  · refine RK.of (RN.ict (cd := .ne) (off := 5) (tgt := 11) (by decide +kernel) (mif_ne hb)) ?_
    refine RK.of (RN.blk (ops := [(11, .aload_n 0), (12, .aload_n 0), (13, .getfield 268), (16, .putfield 153)]) (pc' := 19) (lv' := [(0, .inr (.inr 334))]) (st' := []) (h' := (m_wr h 334 11 (m_rd h 334 2))) (cs := [GK h 334 12, GK h 334 12]) (by decide +kernel) rfl ⟨(o_334 hL).gk, (o_334 hL).gk, trivial⟩) ?_
    have hL : LR (m_wr h 334 11 (m_rd h 334 2)) := LR.wf (k := 11) hL (o_334 hL) rfl
    have hK := hK.tr (KD.wr : KD h (m_wr h 334 11 (m_rd h 334 2)))
    refine RK.of (RN.blk (ops := [(19, .aload_n 0)]) (pc' := 20) (lv' := [(0, .inr (.inr 334))]) (st' := [.inr (.inr 334)]) (h' := (m_wr h 334 11 (m_rd h 334 2))) (cs := []) (by decide +kernel) rfl trivial) ?_
    refine RK.of (RN.gr (i := 23) (ci := 12) (k := 6) (fn := true) (v := 339) (by decide +kernel) rfl (TO.gk (o_334 hL)) (hL.fa (v := 339) 6 1 6 (o_334 hL) rfl (by decide) rfl (by decide)).1) ?_
    obtain ⟨hc, hF⟩ := gd_of hF
    refine RK.of (RN.blk (ops := [(23, .aload_n 0), (24, .getfield 153), (27, .iconst 0), (28, .iastore)]) (pc' := 29) (lv' := [(0, .inr (.inr 334))]) (st' := []) (h' := (m_wr (m_wr h 334 11 (m_rd h 334 2)) 339 (m_rd (m_wr h 334 11 (m_rd h 334 2)) 334 11) 0)) (cs := [GK (m_wr h 334 11 (m_rd h 334 2)) 334 12, GI (m_wr h 334 11 (m_rd h 334 2)) 339 1 (m_rd (m_wr h 334 11 (m_rd h 334 2)) 334 11)]) (by decide +kernel) rfl ⟨(o_334 hL).gk, (a_339 hL).gi hc.1.1 hc.1.2, trivial⟩) ?_
    have hL : LR (m_wr (m_wr h 334 11 (m_rd h 334 2)) 339 (m_rd (m_wr h 334 11 (m_rd h 334 2)) 334 11) 0) := hL.wa (TA.le5 (a_339 hL) (by decide))
    have hK := hK.tr (KD.wr : KD (m_wr h 334 11 (m_rd h 334 2)) (m_wr (m_wr h 334 11 (m_rd h 334 2)) 339 (m_rd (m_wr h 334 11 (m_rd h 334 2)) 334 11) 0))
    obtain ⟨h1, he, hF⟩ := hl_of hF
    refine RK.of (RN.hl he) ?_
    rw [← he] at hL hK
    refine RK.of (RN.blk (ops := [(29, .aload_n 0)]) (pc' := 30) (lv' := [(0, .inr (.inr 334))]) (st' := [.inr (.inr 334)]) (h' := h1) (cs := []) (by decide +kernel) rfl trivial) ?_
    obtain ⟨x3, h2, hG, hF⟩ := bd_of hF
    have hq := rcv_ok (as := []) (TO.gk (o_334 hL))
    obtain ⟨hN, hL, hQ⟩ := DX12_readsAll (d := d) hL  hG
    refine RK.of (RN.cv (i := 271) (k := 194) (q2 := iX12_readsAll) (as := [.inr (.inr 334)]) (r := []) (v := some (.inl x3)) (h1 := h2) (by decide +kernel) rfl rfl rfl rfl rfl hq hN) ?_
    have hK := hK.tr hQ
    rcases it_of hF with ⟨hb, hF⟩ | ⟨hb, hF⟩
    · refine RK.of (RN.iff (cd := .ne) (off := 11) (tgt := 44) (by decide +kernel) (mif_nen hb)) ?_
      refine RK.of (RN.blk (ops := [(36, .bipush (-2)), (38, .aload_n 0), (39, .getfield 96), (42, .isub)]) (pc' := 43) (lv' := [(0, .inr (.inr 334))]) (st' := [.inl (m_w32 ((-2) - (m_rd h2 334 9)))]) (h' := h2) (cs := [GK h2 334 12]) (by decide +kernel) rfl ⟨(o_334 hL).gk, trivial⟩) ?_
      exact RK.iR (by decide +kernel) rfl hL hK hF
    · refine RK.of (RN.ift (cd := .ne) (off := 11) (tgt := 44) (by decide +kernel) (mif_ne hb)) ?_
      refine RK.of (RN.blk (ops := [(44, .aload_n 0), (45, .dup), (46, .getfield 268), (49, .iconst 1), (50, .iadd), (51, .putfield 268)]) (pc' := 54) (lv' := [(0, .inr (.inr 334))]) (st' := []) (h' := (m_wr h2 334 2 (m_w32 ((m_rd h2 334 2) + 1)))) (cs := [GK h2 334 12, GK h2 334 12]) (by decide +kernel) rfl ⟨(o_334 hL).gk, (o_334 hL).gk, trivial⟩) ?_
      have hL : LR (m_wr h2 334 2 (m_w32 ((m_rd h2 334 2) + 1))) := LR.wf (k := 2) hL (o_334 hL) rfl
      have hK := hK.tr (KD.wr : KD h2 (m_wr h2 334 2 (m_w32 ((m_rd h2 334 2) + 1))))
      refine RK.of (RN.blk (ops := [(54, .aload_n 0), (55, .getfield 268), (58, .iconst 1), (59, .isub)]) (pc' := 60) (lv' := [(0, .inr (.inr 334))]) (st' := [.inl (m_w32 ((m_rd (m_wr h2 334 2 (m_w32 ((m_rd h2 334 2) + 1))) 334 2) - 1))]) (h' := (m_wr h2 334 2 (m_w32 ((m_rd h2 334 2) + 1)))) (cs := [GK (m_wr h2 334 2 (m_w32 ((m_rd h2 334 2) + 1))) 334 12]) (by decide +kernel) rfl ⟨(o_334 hL).gk, trivial⟩) ?_
      exact RK.iR (by decide +kernel) rfl hL hK hF
noncomputable def GX12_begins_L3 (K0 : MH → Option (MH)) : Nat → Int → MH → Option (MH)
  | 0, _, _ => none
  | f + 1, v1, h =>
    (if v1 < 82 then
     gd [IB v1 167] (
      GX12_begins_L3 K0 f (m_w32 (v1 + 1)) (m_wr h 344 v1 0))
    else
     K0 h)
theorem DX12_begins_L3 {d : Nat} {K0 : MH → Option (MH)} {r : MH} {h0 hB : MH} (hB0 : KD h0 hB) (hK0 : ∀ (h : MH), LR h → KD hB h → K0 h = some r → RK xs L iX12_begins (d) 22 [(0, .inr (.inr 334))] [] h (RVo r) h0 r) : ∀ (f : Nat) (v1 : Int) (h : MH), LR h → KD hB h → GX12_begins_L3 K0 f v1 h = some r → RK xs L iX12_begins (d) 3 [(0, .inr (.inr 334)), (1, .inl v1)] [] h (RVo r) h0 r := by
  intro f
  induction f with
  | zero =>
    intro v1 h hL hJ hF
    cases hF
  | succ f ih =>
    intro v1 h hL hJ hF
    unfold GX12_begins_L3 at hF
    have hK := hB0.tr hJ
    refine RK.of (RN.blk (ops := [(3, .iload_n 1), (4, .bipush 82)]) (pc' := 6) (lv' := [(0, .inr (.inr 334)), (1, .inl v1)]) (st' := [.inl 82, .inl v1]) (h' := h) (cs := []) (by decide +kernel) rfl trivial) ?_
    rcases it_of hF with ⟨hb, hF⟩ | ⟨hb, hF⟩
    · refine RK.of (RN.icf (cd := .ge) (off := 16) (tgt := 22) (by decide +kernel) (mif_gen hb)) ?_
      refine RK.of (RN.blk (ops := [(9, .aload_n 0)]) (pc' := 10) (lv' := [(0, .inr (.inr 334)), (1, .inl v1)]) (st' := [.inr (.inr 334)]) (h' := h) (cs := []) (by decide +kernel) rfl trivial) ?_
      refine RK.of (RN.gr (i := 39) (ci := 12) (k := 20) (fn := true) (v := 344) (by decide +kernel) rfl (TO.gk (o_334 hL)) (hL.fa (v := 344) 20 1 167 (o_334 hL) rfl (by decide) rfl (by decide)).1) ?_
      obtain ⟨hc, hF⟩ := gd_of hF
      refine RK.of (RN.blk (ops := [(13, .iload_n 1), (14, .iconst 0), (15, .iastore)]) (pc' := 16) (lv' := [(0, .inr (.inr 334)), (1, .inl v1)]) (st' := []) (h' := (m_wr h 344 v1 0)) (cs := [GI h 344 1 v1]) (by decide +kernel) rfl ⟨(a_344 hL).gi hc.1.1 hc.1.2, trivial⟩) ?_
      have hL : LR (m_wr h 344 v1 0) := hL.wa (TA.le5 (a_344 hL) (by decide))
      have hK := hK.tr (KD.wr : KD h (m_wr h 344 v1 0))
      have hJ := hJ.tr (KD.wr : KD h (m_wr h 344 v1 0))
      refine RK.of (RN.blk (ops := [(16, .iinc 1 1)]) (pc' := 19) (lv' := [(1, .inl (m_w32 (v1 + 1))), (0, .inr (.inr 334))]) (st' := []) (h' := (m_wr h 344 v1 0)) (cs := []) (by decide +kernel) rfl trivial) ?_
      refine RK.of (RN.goto (off := -16) (tgt := 3) (by decide +kernel)) ?_
      exact RK.sub (ih _ _ hL hJ hF) (sub_cons rfl (sub_cons rfl sub_nil))
    · refine RK.of (RN.ict (cd := .ge) (off := 16) (tgt := 22) (by decide +kernel) (mif_ge hb)) ?_
      exact RK.sub (hK0 _ hL hJ hF) (sub_cons rfl sub_nil)
noncomputable def GX12_begins_L50 (K0 : MH → Option (MH)) : Nat → Int → MH → Option (MH)
  | 0, _, _ => none
  | f + 1, v1, h =>
    (if v1 < (m_rd h 344 5) then
     gd [IB (m_w32 (124 + v1)) 167, IB (m_w32 (26 + v1)) 167] (
      GX12_begins_L50 K0 f (m_w32 (v1 + 1)) (m_wr h 344 (m_w32 (26 + v1)) (m_rd h 344 (m_w32 (124 + v1)))))
    else
     K0 h)
theorem DX12_begins_L50 {d : Nat} {K0 : MH → Option (MH)} {r : MH} {h0 hB : MH} (hB0 : KD h0 hB) (hK0 : ∀ (h : MH), LR h → KD hB h → K0 h = some r → RK xs L iX12_begins (d) 84 [(0, .inr (.inr 334))] [] h (RVo r) h0 r) : ∀ (f : Nat) (v1 : Int) (h : MH), LR h → KD hB h → GX12_begins_L50 K0 f v1 h = some r → RK xs L iX12_begins (d) 50 [(0, .inr (.inr 334)), (1, .inl v1)] [] h (RVo r) h0 r := by
  intro f
  induction f with
  | zero =>
    intro v1 h hL hJ hF
    cases hF
  | succ f ih =>
    intro v1 h hL hJ hF
    unfold GX12_begins_L50 at hF
    have hK := hB0.tr hJ
    refine RK.of (RN.blk (ops := [(50, .iload_n 1), (51, .aload_n 0)]) (pc' := 52) (lv' := [(0, .inr (.inr 334)), (1, .inl v1)]) (st' := [.inr (.inr 334), .inl v1]) (h' := h) (cs := []) (by decide +kernel) rfl trivial) ?_
    refine RK.of (RN.gr (i := 39) (ci := 12) (k := 20) (fn := true) (v := 344) (by decide +kernel) rfl (TO.gk (o_334 hL)) (hL.fa (v := 344) 20 1 167 (o_334 hL) rfl (by decide) rfl (by decide)).1) ?_
    refine RK.of (RN.blk (ops := [(55, .iconst 5), (56, .iaload)]) (pc' := 57) (lv' := [(0, .inr (.inr 334)), (1, .inl v1)]) (st' := [.inl (m_rd h 344 5), .inl v1]) (h' := h) (cs := [GI h 344 1 5]) (by decide +kernel) rfl ⟨(a_344 hL).gi (by decide) (by decide), trivial⟩) ?_
    rcases it_of hF with ⟨hb, hF⟩ | ⟨hb, hF⟩
    · refine RK.of (RN.icf (cd := .ge) (off := 27) (tgt := 84) (by decide +kernel) (mif_gen hb)) ?_
      refine RK.of (RN.blk (ops := [(60, .aload_n 0)]) (pc' := 61) (lv' := [(0, .inr (.inr 334)), (1, .inl v1)]) (st' := [.inr (.inr 334)]) (h' := h) (cs := []) (by decide +kernel) rfl trivial) ?_
      refine RK.of (RN.gr (i := 39) (ci := 12) (k := 20) (fn := true) (v := 344) (by decide +kernel) rfl (TO.gk (o_334 hL)) (hL.fa (v := 344) 20 1 167 (o_334 hL) rfl (by decide) rfl (by decide)).1) ?_
      refine RK.of (RN.blk (ops := [(64, .bipush 26), (66, .iload_n 1), (67, .iadd), (68, .aload_n 0)]) (pc' := 69) (lv' := [(0, .inr (.inr 334)), (1, .inl v1)]) (st' := [.inr (.inr 334), .inl (m_w32 (26 + v1)), .inr (.inr 344)]) (h' := h) (cs := []) (by decide +kernel) rfl trivial) ?_
      refine RK.of (RN.gr (i := 39) (ci := 12) (k := 20) (fn := true) (v := 344) (by decide +kernel) rfl (TO.gk (o_334 hL)) (hL.fa (v := 344) 20 1 167 (o_334 hL) rfl (by decide) rfl (by decide)).1) ?_
      obtain ⟨hc, hF⟩ := gd_of hF
      refine RK.of (RN.blk (ops := [(72, .bipush 124), (74, .iload_n 1), (75, .iadd), (76, .iaload), (77, .iastore)]) (pc' := 78) (lv' := [(0, .inr (.inr 334)), (1, .inl v1)]) (st' := []) (h' := (m_wr h 344 (m_w32 (26 + v1)) (m_rd h 344 (m_w32 (124 + v1))))) (cs := [GI h 344 1 (m_w32 (124 + v1)), GI h 344 1 (m_w32 (26 + v1))]) (by decide +kernel) rfl ⟨(a_344 hL).gi hc.1.1 hc.1.2, (a_344 hL).gi hc.2.1.1 hc.2.1.2, trivial⟩) ?_
      have hL : LR (m_wr h 344 (m_w32 (26 + v1)) (m_rd h 344 (m_w32 (124 + v1)))) := hL.wa (TA.le5 (a_344 hL) (by decide))
      have hK := hK.tr (KD.wr : KD h (m_wr h 344 (m_w32 (26 + v1)) (m_rd h 344 (m_w32 (124 + v1)))))
      have hJ := hJ.tr (KD.wr : KD h (m_wr h 344 (m_w32 (26 + v1)) (m_rd h 344 (m_w32 (124 + v1)))))
      refine RK.of (RN.blk (ops := [(78, .iinc 1 1)]) (pc' := 81) (lv' := [(1, .inl (m_w32 (v1 + 1))), (0, .inr (.inr 334))]) (st' := []) (h' := (m_wr h 344 (m_w32 (26 + v1)) (m_rd h 344 (m_w32 (124 + v1))))) (cs := []) (by decide +kernel) rfl trivial) ?_
      refine RK.of (RN.goto (off := -31) (tgt := 50) (by decide +kernel)) ?_
      exact RK.sub (ih _ _ hL hJ hF) (sub_cons rfl (sub_cons rfl sub_nil))
    · refine RK.of (RN.ict (cd := .ge) (off := 27) (tgt := 84) (by decide +kernel) (mif_ge hb)) ?_
      exact RK.sub (hK0 _ hL hJ hF) (sub_cons rfl sub_nil)
noncomputable def GX12_begins_L86 (K0 : MH → Option (MH)) : Nat → Int → MH → Option (MH)
  | 0, _, _ => none
  | f + 1, v1, h =>
    (if v1 < (m_w32 (3 * (m_rd h 344 4))) then
     gd [IB (m_w32 (88 + v1)) 167, IB (m_w32 (46 + v1)) 167] (
      GX12_begins_L86 K0 f (m_w32 (v1 + 1)) (m_wr h 344 (m_w32 (46 + v1)) (m_rd h 344 (m_w32 (88 + v1)))))
    else
     K0 h)
theorem DX12_begins_L86 {d : Nat} {K0 : MH → Option (MH)} {r : MH} {h0 hB : MH} (hB0 : KD h0 hB) (hK0 : ∀ (h : MH), LR h → KD hB h → K0 h = some r → RK xs L iX12_begins (d) 122 [] [] h (RVo r) h0 r) : ∀ (f : Nat) (v1 : Int) (h : MH), LR h → KD hB h → GX12_begins_L86 K0 f v1 h = some r → RK xs L iX12_begins (d) 86 [(0, .inr (.inr 334)), (1, .inl v1)] [] h (RVo r) h0 r := by
  intro f
  induction f with
  | zero =>
    intro v1 h hL hJ hF
    cases hF
  | succ f ih =>
    intro v1 h hL hJ hF
    unfold GX12_begins_L86 at hF
    have hK := hB0.tr hJ
    refine RK.of (RN.blk (ops := [(86, .iload_n 1), (87, .iconst 3), (88, .aload_n 0)]) (pc' := 89) (lv' := [(0, .inr (.inr 334)), (1, .inl v1)]) (st' := [.inr (.inr 334), .inl 3, .inl v1]) (h' := h) (cs := []) (by decide +kernel) rfl trivial) ?_
    refine RK.of (RN.gr (i := 39) (ci := 12) (k := 20) (fn := true) (v := 344) (by decide +kernel) rfl (TO.gk (o_334 hL)) (hL.fa (v := 344) 20 1 167 (o_334 hL) rfl (by decide) rfl (by decide)).1) ?_
    refine RK.of (RN.blk (ops := [(92, .iconst 4), (93, .iaload), (94, .imul)]) (pc' := 95) (lv' := [(0, .inr (.inr 334)), (1, .inl v1)]) (st' := [.inl (m_w32 (3 * (m_rd h 344 4))), .inl v1]) (h' := h) (cs := [GI h 344 1 4]) (by decide +kernel) rfl ⟨(a_344 hL).gi (by decide) (by decide), trivial⟩) ?_
    rcases it_of hF with ⟨hb, hF⟩ | ⟨hb, hF⟩
    · refine RK.of (RN.icf (cd := .ge) (off := 27) (tgt := 122) (by decide +kernel) (mif_gen hb)) ?_
      refine RK.of (RN.blk (ops := [(98, .aload_n 0)]) (pc' := 99) (lv' := [(0, .inr (.inr 334)), (1, .inl v1)]) (st' := [.inr (.inr 334)]) (h' := h) (cs := []) (by decide +kernel) rfl trivial) ?_
      refine RK.of (RN.gr (i := 39) (ci := 12) (k := 20) (fn := true) (v := 344) (by decide +kernel) rfl (TO.gk (o_334 hL)) (hL.fa (v := 344) 20 1 167 (o_334 hL) rfl (by decide) rfl (by decide)).1) ?_
      refine RK.of (RN.blk (ops := [(102, .bipush 46), (104, .iload_n 1), (105, .iadd), (106, .aload_n 0)]) (pc' := 107) (lv' := [(0, .inr (.inr 334)), (1, .inl v1)]) (st' := [.inr (.inr 334), .inl (m_w32 (46 + v1)), .inr (.inr 344)]) (h' := h) (cs := []) (by decide +kernel) rfl trivial) ?_
      refine RK.of (RN.gr (i := 39) (ci := 12) (k := 20) (fn := true) (v := 344) (by decide +kernel) rfl (TO.gk (o_334 hL)) (hL.fa (v := 344) 20 1 167 (o_334 hL) rfl (by decide) rfl (by decide)).1) ?_
      obtain ⟨hc, hF⟩ := gd_of hF
      refine RK.of (RN.blk (ops := [(110, .bipush 88), (112, .iload_n 1), (113, .iadd), (114, .iaload), (115, .iastore)]) (pc' := 116) (lv' := [(0, .inr (.inr 334)), (1, .inl v1)]) (st' := []) (h' := (m_wr h 344 (m_w32 (46 + v1)) (m_rd h 344 (m_w32 (88 + v1))))) (cs := [GI h 344 1 (m_w32 (88 + v1)), GI h 344 1 (m_w32 (46 + v1))]) (by decide +kernel) rfl ⟨(a_344 hL).gi hc.1.1 hc.1.2, (a_344 hL).gi hc.2.1.1 hc.2.1.2, trivial⟩) ?_
      have hL : LR (m_wr h 344 (m_w32 (46 + v1)) (m_rd h 344 (m_w32 (88 + v1)))) := hL.wa (TA.le5 (a_344 hL) (by decide))
      have hK := hK.tr (KD.wr : KD h (m_wr h 344 (m_w32 (46 + v1)) (m_rd h 344 (m_w32 (88 + v1)))))
      have hJ := hJ.tr (KD.wr : KD h (m_wr h 344 (m_w32 (46 + v1)) (m_rd h 344 (m_w32 (88 + v1)))))
      refine RK.of (RN.blk (ops := [(116, .iinc 1 1)]) (pc' := 119) (lv' := [(1, .inl (m_w32 (v1 + 1))), (0, .inr (.inr 334))]) (st' := []) (h' := (m_wr h 344 (m_w32 (46 + v1)) (m_rd h 344 (m_w32 (88 + v1))))) (cs := []) (by decide +kernel) rfl trivial) ?_
      refine RK.of (RN.goto (off := -33) (tgt := 86) (by decide +kernel)) ?_
      exact RK.sub (ih _ _ hL hJ hF) (sub_cons rfl (sub_cons rfl sub_nil))
    · refine RK.of (RN.ict (cd := .ge) (off := 27) (tgt := 122) (by decide +kernel) (mif_ge hb)) ?_
      exact RK.sub (hK0 _ hL hJ hF) sub_nil
noncomputable def GX12_begins (h : MH) : Option (MH) :=
  GX12_begins_L3 (fun h1 =>
   hl (m_wr (m_wr h1 344 12 (m_rd h1 344 5)) 344 13 (m_rd (m_wr h1 344 12 (m_rd h1 344 5)) 344 4)) (fun h2 =>
    GX12_begins_L50 (fun h3 =>
     GX12_begins_L86 (fun h4 =>
      some h4) FU 0 h3) FU 0 h2)) FU 10 h
theorem DX12_begins {d : Nat} {h : MH} {r : MH} (hL : LR h) (hF : GX12_begins h = some r) : RN xs L iX12_begins (d) 0 (lvE 0 [.inr (.inr 334)]) [] h (RVo r) ∧ LR r ∧ KD h r := by
  unfold GX12_begins at hF
  have hK : KD h h := KD.rf
  show RK xs L iX12_begins (d) 0 (lvE 0 [.inr (.inr 334)]) [] h (RVo r) h r
  refine RK.of (RN.blk (ops := [(0, .bipush 10), (2, .istore_n 1)]) (pc' := 3) (lv' := [(1, .inl 10), (0, .inr (.inr 334))]) (st' := []) (h' := h) (cs := []) (by decide +kernel) rfl trivial) ?_
  refine RK.sub (DX12_begins_L3 hK ?_ _ _ _ hL KD.rf hF) (sub_cons rfl (sub_cons rfl sub_nil))
  · intro h1 hL hq hF
    have hK := hK.tr hq
    refine RK.of (RN.blk (ops := [(22, .aload_n 0)]) (pc' := 23) (lv' := [(0, .inr (.inr 334))]) (st' := [.inr (.inr 334)]) (h' := h1) (cs := []) (by decide +kernel) rfl trivial) ?_
    refine RK.of (RN.gr (i := 39) (ci := 12) (k := 20) (fn := true) (v := 344) (by decide +kernel) rfl (TO.gk (o_334 hL)) (hL.fa (v := 344) 20 1 167 (o_334 hL) rfl (by decide) rfl (by decide)).1) ?_
    refine RK.of (RN.blk (ops := [(26, .bipush 12), (28, .aload_n 0)]) (pc' := 29) (lv' := [(0, .inr (.inr 334))]) (st' := [.inr (.inr 334), .inl 12, .inr (.inr 344)]) (h' := h1) (cs := []) (by decide +kernel) rfl trivial) ?_
    refine RK.of (RN.gr (i := 39) (ci := 12) (k := 20) (fn := true) (v := 344) (by decide +kernel) rfl (TO.gk (o_334 hL)) (hL.fa (v := 344) 20 1 167 (o_334 hL) rfl (by decide) rfl (by decide)).1) ?_
    refine RK.of (RN.blk (ops := [(32, .iconst 5), (33, .iaload), (34, .iastore)]) (pc' := 35) (lv' := [(0, .inr (.inr 334))]) (st' := []) (h' := (m_wr h1 344 12 (m_rd h1 344 5))) (cs := [GI h1 344 1 5, GI h1 344 1 12]) (by decide +kernel) rfl ⟨(a_344 hL).gi (by decide) (by decide), (a_344 hL).gi (by decide) (by decide), trivial⟩) ?_
    have hL : LR (m_wr h1 344 12 (m_rd h1 344 5)) := hL.wa (TA.le5 (a_344 hL) (by decide))
    have hK := hK.tr (KD.wr : KD h1 (m_wr h1 344 12 (m_rd h1 344 5)))
    refine RK.of (RN.blk (ops := [(35, .aload_n 0)]) (pc' := 36) (lv' := [(0, .inr (.inr 334))]) (st' := [.inr (.inr 334)]) (h' := (m_wr h1 344 12 (m_rd h1 344 5))) (cs := []) (by decide +kernel) rfl trivial) ?_
    refine RK.of (RN.gr (i := 39) (ci := 12) (k := 20) (fn := true) (v := 344) (by decide +kernel) rfl (TO.gk (o_334 hL)) (hL.fa (v := 344) 20 1 167 (o_334 hL) rfl (by decide) rfl (by decide)).1) ?_
    refine RK.of (RN.blk (ops := [(39, .bipush 13), (41, .aload_n 0)]) (pc' := 42) (lv' := [(0, .inr (.inr 334))]) (st' := [.inr (.inr 334), .inl 13, .inr (.inr 344)]) (h' := (m_wr h1 344 12 (m_rd h1 344 5))) (cs := []) (by decide +kernel) rfl trivial) ?_
    refine RK.of (RN.gr (i := 39) (ci := 12) (k := 20) (fn := true) (v := 344) (by decide +kernel) rfl (TO.gk (o_334 hL)) (hL.fa (v := 344) 20 1 167 (o_334 hL) rfl (by decide) rfl (by decide)).1) ?_
    refine RK.of (RN.blk (ops := [(45, .iconst 4), (46, .iaload), (47, .iastore)]) (pc' := 48) (lv' := [(0, .inr (.inr 334))]) (st' := []) (h' := (m_wr (m_wr h1 344 12 (m_rd h1 344 5)) 344 13 (m_rd (m_wr h1 344 12 (m_rd h1 344 5)) 344 4))) (cs := [GI (m_wr h1 344 12 (m_rd h1 344 5)) 344 1 4, GI (m_wr h1 344 12 (m_rd h1 344 5)) 344 1 13]) (by decide +kernel) rfl ⟨(a_344 hL).gi (by decide) (by decide), (a_344 hL).gi (by decide) (by decide), trivial⟩) ?_
    have hL : LR (m_wr (m_wr h1 344 12 (m_rd h1 344 5)) 344 13 (m_rd (m_wr h1 344 12 (m_rd h1 344 5)) 344 4)) := hL.wa (TA.le5 (a_344 hL) (by decide))
    have hK := hK.tr (KD.wr : KD (m_wr h1 344 12 (m_rd h1 344 5)) (m_wr (m_wr h1 344 12 (m_rd h1 344 5)) 344 13 (m_rd (m_wr h1 344 12 (m_rd h1 344 5)) 344 4)))
    obtain ⟨h2, he, hF⟩ := hl_of hF
    refine RK.of (RN.hl he) ?_
    rw [← he] at hL hK
    refine RK.of (RN.blk (ops := [(48, .iconst 0), (49, .istore_n 1)]) (pc' := 50) (lv' := [(1, .inl 0), (0, .inr (.inr 334))]) (st' := []) (h' := h2) (cs := []) (by decide +kernel) rfl trivial) ?_
    refine RK.sub (DX12_begins_L50 hK ?_ _ _ _ hL KD.rf hF) (sub_cons rfl (sub_cons rfl sub_nil))
    · intro h3 hL hq hF
      have hK := hK.tr hq
      refine RK.of (RN.blk (ops := [(84, .iconst 0), (85, .istore_n 1)]) (pc' := 86) (lv' := [(1, .inl 0), (0, .inr (.inr 334))]) (st' := []) (h' := h3) (cs := []) (by decide +kernel) rfl trivial) ?_
      refine RK.sub (DX12_begins_L86 hK ?_ _ _ _ hL KD.rf hF) (sub_cons rfl (sub_cons rfl sub_nil))
      · intro h4 hL hq hF
        have hK := hK.tr hq
        exact RK.vR (by decide +kernel) rfl hL hK hF
noncomputable def GX12_frame_L8 (K0 : MH → Option (Int × MH)) : Nat → Int → MH → Option (Int × MH)
  | 0, _, _ => none
  | f + 1, v1, h =>
    (if v1 < 136 then
     gd [IB v1 136] (
      GX12_frame_L8 K0 f (m_w32 (v1 + 1)) (m_wr h 340 v1 0))
    else
     K0 h)
theorem DX12_frame_L8 {d : Nat} {K0 : MH → Option (Int × MH)} {r : Int × MH} {h0 hB : MH} (hB0 : KD h0 hB) (hK0 : ∀ (h : MH), LR h → KD hB h → K0 h = some r → RK xs L iX12_frame (d + 12) 28 [(0, .inr (.inr 334))] [] h (RIo r) h0 r.2) : ∀ (f : Nat) (v1 : Int) (h : MH), LR h → KD hB h → GX12_frame_L8 K0 f v1 h = some r → RK xs L iX12_frame (d + 12) 8 [(0, .inr (.inr 334)), (1, .inl v1)] [] h (RIo r) h0 r.2 := by
  intro f
  induction f with
  | zero =>
    intro v1 h hL hJ hF
    cases hF
  | succ f ih =>
    intro v1 h hL hJ hF
    unfold GX12_frame_L8 at hF
    have hK := hB0.tr hJ
    refine RK.of (RN.blk (ops := [(8, .iload_n 1), (9, .sipush 136)]) (pc' := 12) (lv' := [(0, .inr (.inr 334)), (1, .inl v1)]) (st' := [.inl 136, .inl v1]) (h' := h) (cs := []) (by decide +kernel) rfl trivial) ?_
    rcases it_of hF with ⟨hb, hF⟩ | ⟨hb, hF⟩
    · refine RK.of (RN.icf (cd := .ge) (off := 16) (tgt := 28) (by decide +kernel) (mif_gen hb)) ?_
      refine RK.of (RN.blk (ops := [(15, .aload_n 0)]) (pc' := 16) (lv' := [(0, .inr (.inr 334)), (1, .inl v1)]) (st' := [.inr (.inr 334)]) (h' := h) (cs := []) (by decide +kernel) rfl trivial) ?_
      refine RK.of (RN.gr (i := 26) (ci := 12) (k := 7) (fn := true) (v := 340) (by decide +kernel) rfl (TO.gk (o_334 hL)) (hL.fa (v := 340) 7 1 136 (o_334 hL) rfl (by decide) rfl (by decide)).1) ?_
      obtain ⟨hc, hF⟩ := gd_of hF
      refine RK.of (RN.blk (ops := [(19, .iload_n 1), (20, .iconst 0), (21, .iastore)]) (pc' := 22) (lv' := [(0, .inr (.inr 334)), (1, .inl v1)]) (st' := []) (h' := (m_wr h 340 v1 0)) (cs := [GI h 340 1 v1]) (by decide +kernel) rfl ⟨(a_340 hL).gi hc.1.1 hc.1.2, trivial⟩) ?_
      have hL : LR (m_wr h 340 v1 0) := hL.wa (TA.le5 (a_340 hL) (by decide))
      have hK := hK.tr (KD.wr : KD h (m_wr h 340 v1 0))
      have hJ := hJ.tr (KD.wr : KD h (m_wr h 340 v1 0))
      refine RK.of (RN.blk (ops := [(22, .iinc 1 1)]) (pc' := 25) (lv' := [(1, .inl (m_w32 (v1 + 1))), (0, .inr (.inr 334))]) (st' := []) (h' := (m_wr h 340 v1 0)) (cs := []) (by decide +kernel) rfl trivial) ?_
      refine RK.of (RN.goto (off := -17) (tgt := 8) (by decide +kernel)) ?_
      exact RK.sub (ih _ _ hL hJ hF) (sub_cons rfl (sub_cons rfl sub_nil))
    · refine RK.of (RN.ict (cd := .ge) (off := 16) (tgt := 28) (by decide +kernel) (mif_ge hb)) ?_
      exact RK.sub (hK0 _ hL hJ hF) (sub_cons rfl sub_nil)
noncomputable def GX12_frame_L45 (K0 : MH → Option (Int × MH)) : Nat → Int → MH → Option (Int × MH)
  | 0, _, _ => none
  | f + 1, v1, h =>
    (if v1 < 167 then
     (if v1 < 136 then
      gd [IB v1 136] (
       gd [IB v1 167] (
        GX12_frame_L45 K0 f (m_w32 (v1 + 1)) (m_wr h 344 v1 (m_rd h 340 v1))))
     else
      gd [IB v1 167] (
       GX12_frame_L45 K0 f (m_w32 (v1 + 1)) (m_wr h 344 v1 0)))
    else
     K0 h)
theorem DX12_frame_L45 {d : Nat} {K0 : MH → Option (Int × MH)} {r : Int × MH} {h0 hB : MH} (hB0 : KD h0 hB) (hK0 : ∀ (h : MH), LR h → KD hB h → K0 h = some r → RK xs L iX12_frame (d + 12) 81 [(0, .inr (.inr 334))] [] h (RIo r) h0 r.2) : ∀ (f : Nat) (v1 : Int) (h : MH), LR h → KD hB h → GX12_frame_L45 K0 f v1 h = some r → RK xs L iX12_frame (d + 12) 45 [(0, .inr (.inr 334)), (1, .inl v1)] [] h (RIo r) h0 r.2 := by
  intro f
  induction f with
  | zero =>
    intro v1 h hL hJ hF
    cases hF
  | succ f ih =>
    intro v1 h hL hJ hF
    unfold GX12_frame_L45 at hF
    have hK := hB0.tr hJ
    refine RK.of (RN.blk (ops := [(45, .iload_n 1), (46, .sipush 167)]) (pc' := 49) (lv' := [(0, .inr (.inr 334)), (1, .inl v1)]) (st' := [.inl 167, .inl v1]) (h' := h) (cs := []) (by decide +kernel) rfl trivial) ?_
    rcases it_of hF with ⟨hb, hF⟩ | ⟨hb, hF⟩
    · refine RK.of (RN.icf (cd := .ge) (off := 32) (tgt := 81) (by decide +kernel) (mif_gen hb)) ?_
      refine RK.of (RN.blk (ops := [(52, .aload_n 0)]) (pc' := 53) (lv' := [(0, .inr (.inr 334)), (1, .inl v1)]) (st' := [.inr (.inr 334)]) (h' := h) (cs := []) (by decide +kernel) rfl trivial) ?_
      refine RK.of (RN.gr (i := 39) (ci := 12) (k := 20) (fn := true) (v := 344) (by decide +kernel) rfl (TO.gk (o_334 hL)) (hL.fa (v := 344) 20 1 167 (o_334 hL) rfl (by decide) rfl (by decide)).1) ?_
      refine RK.of (RN.blk (ops := [(56, .iload_n 1), (57, .iload_n 1), (58, .sipush 136)]) (pc' := 61) (lv' := [(0, .inr (.inr 334)), (1, .inl v1)]) (st' := [.inl 136, .inl v1, .inl v1, .inr (.inr 344)]) (h' := h) (cs := []) (by decide +kernel) rfl trivial) ?_
      rcases it_of hF with ⟨hb, hF⟩ | ⟨hb, hF⟩
      · refine RK.of (RN.icf (cd := .ge) (off := 12) (tgt := 73) (by decide +kernel) (mif_gen hb)) ?_
        refine RK.of (RN.blk (ops := [(64, .aload_n 0)]) (pc' := 65) (lv' := [(0, .inr (.inr 334)), (1, .inl v1)]) (st' := [.inr (.inr 334), .inl v1, .inr (.inr 344)]) (h' := h) (cs := []) (by decide +kernel) rfl trivial) ?_
        refine RK.of (RN.gr (i := 26) (ci := 12) (k := 7) (fn := true) (v := 340) (by decide +kernel) rfl (TO.gk (o_334 hL)) (hL.fa (v := 340) 7 1 136 (o_334 hL) rfl (by decide) rfl (by decide)).1) ?_
        obtain ⟨hc, hF⟩ := gd_of hF
        refine RK.of (RN.blk (ops := [(68, .iload_n 1), (69, .iaload)]) (pc' := 70) (lv' := [(0, .inr (.inr 334)), (1, .inl v1)]) (st' := [.inl (m_rd h 340 v1), .inl v1, .inr (.inr 344)]) (h' := h) (cs := [GI h 340 1 v1]) (by decide +kernel) rfl ⟨(a_340 hL).gi hc.1.1 hc.1.2, trivial⟩) ?_
        refine RK.of (RN.goto (off := 4) (tgt := 74) (by decide +kernel)) ?_
        obtain ⟨hc, hF⟩ := gd_of hF
        refine RK.of (RN.blk (ops := [(74, .iastore)]) (pc' := 75) (lv' := [(0, .inr (.inr 334)), (1, .inl v1)]) (st' := []) (h' := (m_wr h 344 v1 (m_rd h 340 v1))) (cs := [GI h 344 1 v1]) (by decide +kernel) rfl ⟨(a_344 hL).gi hc.1.1 hc.1.2, trivial⟩) ?_
        have hL : LR (m_wr h 344 v1 (m_rd h 340 v1)) := hL.wa (TA.le5 (a_344 hL) (by decide))
        have hK := hK.tr (KD.wr : KD h (m_wr h 344 v1 (m_rd h 340 v1)))
        have hJ := hJ.tr (KD.wr : KD h (m_wr h 344 v1 (m_rd h 340 v1)))
        refine RK.of (RN.blk (ops := [(75, .iinc 1 1)]) (pc' := 78) (lv' := [(1, .inl (m_w32 (v1 + 1))), (0, .inr (.inr 334))]) (st' := []) (h' := (m_wr h 344 v1 (m_rd h 340 v1))) (cs := []) (by decide +kernel) rfl trivial) ?_
        refine RK.of (RN.goto (off := -33) (tgt := 45) (by decide +kernel)) ?_
        exact RK.sub (ih _ _ hL hJ hF) (sub_cons rfl (sub_cons rfl sub_nil))
      · refine RK.of (RN.ict (cd := .ge) (off := 12) (tgt := 73) (by decide +kernel) (mif_ge hb)) ?_
        refine RK.of (RN.blk (ops := [(73, .iconst 0)]) (pc' := 74) (lv' := [(0, .inr (.inr 334)), (1, .inl v1)]) (st' := [.inl 0, .inl v1, .inr (.inr 344)]) (h' := h) (cs := []) (by decide +kernel) rfl trivial) ?_
        obtain ⟨hc, hF⟩ := gd_of hF
        refine RK.of (RN.blk (ops := [(74, .iastore)]) (pc' := 75) (lv' := [(0, .inr (.inr 334)), (1, .inl v1)]) (st' := []) (h' := (m_wr h 344 v1 0)) (cs := [GI h 344 1 v1]) (by decide +kernel) rfl ⟨(a_344 hL).gi hc.1.1 hc.1.2, trivial⟩) ?_
        have hL : LR (m_wr h 344 v1 0) := hL.wa (TA.le5 (a_344 hL) (by decide))
        have hK := hK.tr (KD.wr : KD h (m_wr h 344 v1 0))
        have hJ := hJ.tr (KD.wr : KD h (m_wr h 344 v1 0))
        refine RK.of (RN.blk (ops := [(75, .iinc 1 1)]) (pc' := 78) (lv' := [(1, .inl (m_w32 (v1 + 1))), (0, .inr (.inr 334))]) (st' := []) (h' := (m_wr h 344 v1 0)) (cs := []) (by decide +kernel) rfl trivial) ?_
        refine RK.of (RN.goto (off := -33) (tgt := 45) (by decide +kernel)) ?_
        exact RK.sub (ih _ _ hL hJ hF) (sub_cons rfl (sub_cons rfl sub_nil))
    · refine RK.of (RN.ict (cd := .ge) (off := 32) (tgt := 81) (by decide +kernel) (mif_ge hb)) ?_
      exact RK.sub (hK0 _ hL hJ hF) (sub_cons rfl sub_nil)
noncomputable def GX12_frame (h : MH) : Option (Int × MH) :=
  GX12_frame_L8 (fun h1 =>
   (bd (GX12_readsAll h1) (fun x3 h2 =>
    (if x3 = 0 then
     some ((m_w32 ((-2) - (m_rd h2 334 9))), h2)
    else
     GX12_frame_L45 (fun h4 =>
      (bv (GX12_begins h4) (fun h5 =>
       some ((m_rd (m_wr h5 334 25 0) 344 4), (m_wr h5 334 25 0))))) FU 0 h2)))) FU 0 (m_wr h 334 11 6)
theorem DX12_frame {d : Nat} {h : MH} {r : Int × MH} (hL : LR h) (hF : GX12_frame h = some r) : RN xs L iX12_frame (d + 12) 0 (lvE 0 [.inr (.inr 334)]) [] h (RIo r) ∧ LR r.2 ∧ KD h r.2 := by
  unfold GX12_frame at hF
  have hK : KD h h := KD.rf
  show RK xs L iX12_frame (d + 12) 0 (lvE 0 [.inr (.inr 334)]) [] h (RIo r) h r.2
  refine RK.of (RN.blk (ops := [(0, .aload_n 0), (1, .bipush 6), (3, .putfield 153)]) (pc' := 6) (lv' := [(0, .inr (.inr 334))]) (st' := []) (h' := (m_wr h 334 11 6)) (cs := [GK h 334 12]) (by decide +kernel) rfl ⟨(o_334 hL).gk, trivial⟩) ?_
  have hL : LR (m_wr h 334 11 6) := LR.wf (k := 11) hL (o_334 hL) rfl
  have hK := hK.tr (KD.wr : KD h (m_wr h 334 11 6))
  refine RK.of (RN.blk (ops := [(6, .iconst 0), (7, .istore_n 1)]) (pc' := 8) (lv' := [(1, .inl 0), (0, .inr (.inr 334))]) (st' := []) (h' := (m_wr h 334 11 6)) (cs := []) (by decide +kernel) rfl trivial) ?_
  refine RK.sub (DX12_frame_L8 hK ?_ _ _ _ hL KD.rf hF) (sub_cons rfl (sub_cons rfl sub_nil))
  · intro h1 hL hq hF
    have hK := hK.tr hq
    refine RK.of (RN.blk (ops := [(28, .aload_n 0)]) (pc' := 29) (lv' := [(0, .inr (.inr 334))]) (st' := [.inr (.inr 334)]) (h' := h1) (cs := []) (by decide +kernel) rfl trivial) ?_
    obtain ⟨x3, h2, hG, hF⟩ := bd_of hF
    have hq := rcv_ok (as := []) (TO.gk (o_334 hL))
    obtain ⟨hN, hL, hQ⟩ := DX12_readsAll (d := d) hL  hG
    refine RK.of (RN.cv (i := 271) (k := 194) (q2 := iX12_readsAll) (as := [.inr (.inr 334)]) (r := []) (v := some (.inl x3)) (h1 := h2) (by decide +kernel) rfl rfl rfl rfl rfl hq hN) ?_
    have hK := hK.tr hQ
    rcases it_of hF with ⟨hb, hF⟩ | ⟨hb, hF⟩
    · refine RK.of (RN.iff (cd := .ne) (off := 11) (tgt := 43) (by decide +kernel) (mif_nen hb)) ?_
      refine RK.of (RN.blk (ops := [(35, .bipush (-2)), (37, .aload_n 0), (38, .getfield 96), (41, .isub)]) (pc' := 42) (lv' := [(0, .inr (.inr 334))]) (st' := [.inl (m_w32 ((-2) - (m_rd h2 334 9)))]) (h' := h2) (cs := [GK h2 334 12]) (by decide +kernel) rfl ⟨(o_334 hL).gk, trivial⟩) ?_
      exact RK.iR (by decide +kernel) rfl hL hK hF
    · refine RK.of (RN.ift (cd := .ne) (off := 11) (tgt := 43) (by decide +kernel) (mif_ne hb)) ?_
      refine RK.of (RN.blk (ops := [(43, .iconst 0), (44, .istore_n 1)]) (pc' := 45) (lv' := [(1, .inl 0), (0, .inr (.inr 334))]) (st' := []) (h' := h2) (cs := []) (by decide +kernel) rfl trivial) ?_
      refine RK.sub (DX12_frame_L45 hK ?_ _ _ _ hL KD.rf hF) (sub_cons rfl (sub_cons rfl sub_nil))
      · intro h4 hL hq hF
        have hK := hK.tr hq
        refine RK.of (RN.blk (ops := [(81, .aload_n 0)]) (pc' := 82) (lv' := [(0, .inr (.inr 334))]) (st' := [.inr (.inr 334)]) (h' := h4) (cs := []) (by decide +kernel) rfl trivial) ?_
        obtain ⟨h5, hG, hF⟩ := bv_of hF
        have hq := rcv_ok (as := []) (TO.gk (o_334 hL))
        obtain ⟨hN, hL, hQ⟩ := DX12_begins (d := d + 11) hL  hG
        refine RK.of (RN.cv (i := 274) (k := 211) (q2 := iX12_begins) (as := [.inr (.inr 334)]) (r := []) (v := none) (h1 := h5) (by decide +kernel) rfl rfl rfl rfl rfl hq hN) ?_
        have hK := hK.tr hQ
        refine RK.of (RN.blk (ops := [(85, .aload_n 0), (86, .iconst 0), (87, .putfield 277)]) (pc' := 90) (lv' := [(0, .inr (.inr 334))]) (st' := []) (h' := (m_wr h5 334 25 0)) (cs := [GK h5 334 12]) (by decide +kernel) rfl ⟨(o_334 hL).gk, trivial⟩) ?_
        have hL : LR (m_wr h5 334 25 0) := LR.wf (k := 25) hL (o_334 hL) rfl
        have hK := hK.tr (KD.wr : KD h5 (m_wr h5 334 25 0))
        refine RK.of (RN.blk (ops := [(90, .aload_n 0)]) (pc' := 91) (lv' := [(0, .inr (.inr 334))]) (st' := [.inr (.inr 334)]) (h' := (m_wr h5 334 25 0)) (cs := []) (by decide +kernel) rfl trivial) ?_
        refine RK.of (RN.gr (i := 39) (ci := 12) (k := 20) (fn := true) (v := 344) (by decide +kernel) rfl (TO.gk (o_334 hL)) (hL.fa (v := 344) 20 1 167 (o_334 hL) rfl (by decide) rfl (by decide)).1) ?_
        refine RK.of (RN.blk (ops := [(94, .iconst 4), (95, .iaload)]) (pc' := 96) (lv' := [(0, .inr (.inr 334))]) (st' := [.inl (m_rd (m_wr h5 334 25 0) 344 4)]) (h' := (m_wr h5 334 25 0)) (cs := [GI (m_wr h5 334 25 0) 344 1 4]) (by decide +kernel) rfl ⟨(a_344 hL).gi (by decide) (by decide), trivial⟩) ?_
        exact RK.iR (by decide +kernel) rfl hL hK hF
end Gc
