/-! METHODS AS FUNCTIONS, references resolved (by program): X1_fewestEntries, X4_copyFrom, X10_copyFrom, X8_copyFrom, X2_take, X2_copyFrom, X2_addNote, X2_lastNotedTurn, X2_notesHold, X10_clear, X4_put, X9_fail, X9_isDigit, X9_next, X9_takeNumber -/
section Gc
variable {xs : Int → Int} {L : Int}
noncomputable def GX1_fewestEntries_L32 (u1 : Int) (u2 : Int) (u3 : Int) (K0 : MH → Option (Int × MH)) : Nat → Int → MH → Option (Int × MH)
  | 0, _, _ => none
  | f + 1, v4, h =>
    (if v4 < u1 then
     jn (fun (s2 : Int) =>
      jn (fun (s4 : Int) =>
       (if s4 = 0 then
        (if u3 = (-1) then
         gd [IB (m_w32 ((m_w32 (u2 * u1)) + v4)) 1792] (
          GX1_fewestEntries_L32 u1 u2 u3 K0 f (m_w32 (v4 + 1)) (m_wr h 308 (m_w32 ((m_w32 (u2 * u1)) + v4)) 10000))
        else
         gd [IB (m_w32 ((m_w32 (u2 * u1)) + v4)) 1792] (
          GX1_fewestEntries_L32 u1 u2 u3 K0 f (m_w32 (v4 + 1)) (m_wr h 308 (m_w32 ((m_w32 (u2 * u1)) + v4)) 1)))
       else
        gd [IB (m_w32 ((m_w32 (u2 * u1)) + v4)) 1792] (
         GX1_fewestEntries_L32 u1 u2 u3 K0 f (m_w32 (v4 + 1)) (m_wr h 308 (m_w32 ((m_w32 (u2 * u1)) + v4)) 0)))) (fun j3 =>
       (if u3 = s2 then
        j3 1
       else
        j3 0))) (fun j1 =>
      (if v4 = 6 then
       j1 (-1)
      else
       j1 v4))
    else
     K0 h)
theorem DX1_fewestEntries_L32 {d : Nat} {u1 : Int} {u2 : Int} {u3 : Int} {K0 : MH → Option (Int × MH)} {r : Int × MH} {h0 hB : MH} (hB0 : KD h0 hB) (hK0 : ∀ (h : MH), LR h → KD hB h → K0 h = some r → RK xs L iX1_fewestEntries (d + 3) 100 [(0, .inr (.inr 298)), (1, .inl u1), (2, .inl u2)] [] h (RIo r) h0 r.2) : ∀ (f : Nat) (v4 : Int) (h : MH), LR h → KD hB h → GX1_fewestEntries_L32 u1 u2 u3 K0 f v4 h = some r → RK xs L iX1_fewestEntries (d + 3) 32 [(0, .inr (.inr 298)), (1, .inl u1), (2, .inl u2), (3, .inl u3), (4, .inl v4)] [] h (RIo r) h0 r.2 := by
  intro f
  induction f with
  | zero =>
    intro v4 h hL hJ hF
    cases hF
  | succ f ih =>
    intro v4 h hL hJ hF
    unfold GX1_fewestEntries_L32 at hF
    have hK := hB0.tr hJ
    refine RK.of (RN.blk (ops := [(32, .iload 4), (34, .iload_n 1)]) (pc' := 35) (lv' := [(0, .inr (.inr 298)), (1, .inl u1), (2, .inl u2), (3, .inl u3), (4, .inl v4)]) (st' := [.inl u1, .inl v4]) (h' := h) (cs := []) (by decide +kernel) rfl trivial) ?_
    rcases it_of hF with ⟨hb, hF⟩ | ⟨hb, hF⟩
    · refine RK.of (RN.icf (cd := .ge) (off := 65) (tgt := 100) (by decide +kernel) (mif_gen hb)) ?_
      refine RK.of (RN.blk (ops := [(38, .iload_n 3), (39, .iload 4), (41, .bipush 6)]) (pc' := 43) (lv' := [(0, .inr (.inr 298)), (1, .inl u1), (2, .inl u2), (3, .inl u3), (4, .inl v4)]) (st' := [.inl 6, .inl v4, .inl u3]) (h' := h) (cs := []) (by decide +kernel) rfl trivial) ?_
      refine jn_use (fun j1 => ∀ (s2 : Int), j1 s2 = some r → RK xs L iX1_fewestEntries (d + 3) 52 [(0, .inr (.inr 298)), (1, .inl u1), (2, .inl u2), (3, .inl u3), (4, .inl v4)] [.inl s2, .inl u3] h (RIo r) h0 r.2) ?_ ?_ hF
      · intro s2 hF
        refine jn_use (fun j3 => ∀ (s4 : Int), j3 s4 = some r → RK xs L iX1_fewestEntries (d + 3) 60 [(0, .inr (.inr 298)), (1, .inl u1), (2, .inl u2), (3, .inl u3), (4, .inl v4)] [.inl s4] h (RIo r) h0 r.2) ?_ ?_ hF
        · intro s4 hF
          refine RK.of (RN.blk (ops := [(60, .istore 5), (62, .aload_n 0)]) (pc' := 63) (lv' := [(5, .inl s4), (0, .inr (.inr 298)), (1, .inl u1), (2, .inl u2), (3, .inl u3), (4, .inl v4)]) (st' := [.inr (.inr 298)]) (h' := h) (cs := []) (by decide +kernel) rfl trivial) ?_
          refine RK.of (RN.gr (i := 32) (ci := 1) (k := 4) (fn := true) (v := 308) (by decide +kernel) rfl (TO.gk (o_298 hL)) (hL.fa (v := 308) 4 1 1792 (o_298 hL) rfl (by decide) rfl (by decide)).1) ?_
          refine RK.of (RN.blk (ops := [(66, .iload_n 2), (67, .iload_n 1), (68, .imul), (69, .iload 4), (71, .iadd), (72, .iload 5)]) (pc' := 74) (lv' := [(5, .inl s4), (0, .inr (.inr 298)), (1, .inl u1), (2, .inl u2), (3, .inl u3), (4, .inl v4)]) (st' := [.inl s4, .inl (m_w32 ((m_w32 (u2 * u1)) + v4)), .inr (.inr 308)]) (h' := h) (cs := []) (by decide +kernel) rfl trivial) ?_
          rcases it_of hF with ⟨hb, hF⟩ | ⟨hb, hF⟩
          · refine RK.of (RN.ift (cd := .eq) (off := 7) (tgt := 81) (by decide +kernel) (mif_eq hb)) ?_
            refine RK.of (RN.blk (ops := [(81, .iload_n 3), (82, .iconst (-1))]) (pc' := 83) (lv' := [(5, .inl s4), (0, .inr (.inr 298)), (1, .inl u1), (2, .inl u2), (3, .inl u3), (4, .inl v4)]) (st' := [.inl (-1), .inl u3, .inl (m_w32 ((m_w32 (u2 * u1)) + v4)), .inr (.inr 308)]) (h' := h) (cs := []) (by decide +kernel) rfl trivial) ?_
            rcases it_of hF with ⟨hb, hF⟩ | ⟨hb, hF⟩
            · refine RK.of (RN.icf (cd := .ne) (off := 9) (tgt := 92) (by decide +kernel) (mif_nen hb)) ?_
              refine RK.of (RN.blk (ops := [(86, .sipush 10000)]) (pc' := 89) (lv' := [(5, .inl s4), (0, .inr (.inr 298)), (1, .inl u1), (2, .inl u2), (3, .inl u3), (4, .inl v4)]) (st' := [.inl 10000, .inl (m_w32 ((m_w32 (u2 * u1)) + v4)), .inr (.inr 308)]) (h' := h) (cs := []) (by decide +kernel) rfl trivial) ?_
              refine RK.of (RN.goto (off := 4) (tgt := 93) (by decide +kernel)) ?_
              obtain ⟨hc, hF⟩ := gd_of hF
              refine RK.of (RN.blk (ops := [(93, .iastore)]) (pc' := 94) (lv' := [(5, .inl s4), (0, .inr (.inr 298)), (1, .inl u1), (2, .inl u2), (3, .inl u3), (4, .inl v4)]) (st' := []) (h' := (m_wr h 308 (m_w32 ((m_w32 (u2 * u1)) + v4)) 10000)) (cs := [GI h 308 1 (m_w32 ((m_w32 (u2 * u1)) + v4))]) (by decide +kernel) rfl ⟨(a_308 hL).gi hc.1.1 hc.1.2, trivial⟩) ?_
              have hL : LR (m_wr h 308 (m_w32 ((m_w32 (u2 * u1)) + v4)) 10000) := hL.wa (TA.le5 (a_308 hL) (by decide))
              have hK := hK.tr (KD.wr : KD h (m_wr h 308 (m_w32 ((m_w32 (u2 * u1)) + v4)) 10000))
              have hJ := hJ.tr (KD.wr : KD h (m_wr h 308 (m_w32 ((m_w32 (u2 * u1)) + v4)) 10000))
              refine RK.of (RN.blk (ops := [(94, .iinc 4 1)]) (pc' := 97) (lv' := [(4, .inl (m_w32 (v4 + 1))), (5, .inl s4), (0, .inr (.inr 298)), (1, .inl u1), (2, .inl u2), (3, .inl u3)]) (st' := []) (h' := (m_wr h 308 (m_w32 ((m_w32 (u2 * u1)) + v4)) 10000)) (cs := []) (by decide +kernel) rfl trivial) ?_
              refine RK.of (RN.goto (off := -65) (tgt := 32) (by decide +kernel)) ?_
              exact RK.sub (ih _ _ hL hJ hF) (sub_cons rfl (sub_cons rfl (sub_cons rfl (sub_cons rfl (sub_cons rfl sub_nil)))))
            · refine RK.of (RN.ict (cd := .ne) (off := 9) (tgt := 92) (by decide +kernel) (mif_ne hb)) ?_
              refine RK.of (RN.blk (ops := [(92, .iconst 1)]) (pc' := 93) (lv' := [(5, .inl s4), (0, .inr (.inr 298)), (1, .inl u1), (2, .inl u2), (3, .inl u3), (4, .inl v4)]) (st' := [.inl 1, .inl (m_w32 ((m_w32 (u2 * u1)) + v4)), .inr (.inr 308)]) (h' := h) (cs := []) (by decide +kernel) rfl trivial) ?_
              obtain ⟨hc, hF⟩ := gd_of hF
              refine RK.of (RN.blk (ops := [(93, .iastore)]) (pc' := 94) (lv' := [(5, .inl s4), (0, .inr (.inr 298)), (1, .inl u1), (2, .inl u2), (3, .inl u3), (4, .inl v4)]) (st' := []) (h' := (m_wr h 308 (m_w32 ((m_w32 (u2 * u1)) + v4)) 1)) (cs := [GI h 308 1 (m_w32 ((m_w32 (u2 * u1)) + v4))]) (by decide +kernel) rfl ⟨(a_308 hL).gi hc.1.1 hc.1.2, trivial⟩) ?_
              have hL : LR (m_wr h 308 (m_w32 ((m_w32 (u2 * u1)) + v4)) 1) := hL.wa (TA.le5 (a_308 hL) (by decide))
              have hK := hK.tr (KD.wr : KD h (m_wr h 308 (m_w32 ((m_w32 (u2 * u1)) + v4)) 1))
              have hJ := hJ.tr (KD.wr : KD h (m_wr h 308 (m_w32 ((m_w32 (u2 * u1)) + v4)) 1))
              refine RK.of (RN.blk (ops := [(94, .iinc 4 1)]) (pc' := 97) (lv' := [(4, .inl (m_w32 (v4 + 1))), (5, .inl s4), (0, .inr (.inr 298)), (1, .inl u1), (2, .inl u2), (3, .inl u3)]) (st' := []) (h' := (m_wr h 308 (m_w32 ((m_w32 (u2 * u1)) + v4)) 1)) (cs := []) (by decide +kernel) rfl trivial) ?_
              refine RK.of (RN.goto (off := -65) (tgt := 32) (by decide +kernel)) ?_
              exact RK.sub (ih _ _ hL hJ hF) (sub_cons rfl (sub_cons rfl (sub_cons rfl (sub_cons rfl (sub_cons rfl sub_nil)))))
          · refine RK.of (RN.iff (cd := .eq) (off := 7) (tgt := 81) (by decide +kernel) (mif_eqn hb)) ?_
            refine RK.of (RN.blk (ops := [(77, .iconst 0)]) (pc' := 78) (lv' := [(5, .inl s4), (0, .inr (.inr 298)), (1, .inl u1), (2, .inl u2), (3, .inl u3), (4, .inl v4)]) (st' := [.inl 0, .inl (m_w32 ((m_w32 (u2 * u1)) + v4)), .inr (.inr 308)]) (h' := h) (cs := []) (by decide +kernel) rfl trivial) ?_
            refine RK.of (RN.goto (off := 15) (tgt := 93) (by decide +kernel)) ?_
            obtain ⟨hc, hF⟩ := gd_of hF
            refine RK.of (RN.blk (ops := [(93, .iastore)]) (pc' := 94) (lv' := [(5, .inl s4), (0, .inr (.inr 298)), (1, .inl u1), (2, .inl u2), (3, .inl u3), (4, .inl v4)]) (st' := []) (h' := (m_wr h 308 (m_w32 ((m_w32 (u2 * u1)) + v4)) 0)) (cs := [GI h 308 1 (m_w32 ((m_w32 (u2 * u1)) + v4))]) (by decide +kernel) rfl ⟨(a_308 hL).gi hc.1.1 hc.1.2, trivial⟩) ?_
            have hL : LR (m_wr h 308 (m_w32 ((m_w32 (u2 * u1)) + v4)) 0) := hL.wa (TA.le5 (a_308 hL) (by decide))
            have hK := hK.tr (KD.wr : KD h (m_wr h 308 (m_w32 ((m_w32 (u2 * u1)) + v4)) 0))
            have hJ := hJ.tr (KD.wr : KD h (m_wr h 308 (m_w32 ((m_w32 (u2 * u1)) + v4)) 0))
            refine RK.of (RN.blk (ops := [(94, .iinc 4 1)]) (pc' := 97) (lv' := [(4, .inl (m_w32 (v4 + 1))), (5, .inl s4), (0, .inr (.inr 298)), (1, .inl u1), (2, .inl u2), (3, .inl u3)]) (st' := []) (h' := (m_wr h 308 (m_w32 ((m_w32 (u2 * u1)) + v4)) 0)) (cs := []) (by decide +kernel) rfl trivial) ?_
            refine RK.of (RN.goto (off := -65) (tgt := 32) (by decide +kernel)) ?_
            exact RK.sub (ih _ _ hL hJ hF) (sub_cons rfl (sub_cons rfl (sub_cons rfl (sub_cons rfl (sub_cons rfl sub_nil)))))
        · intro j3 Jj3 hF
          rcases it_of hF with ⟨hb, hF⟩ | ⟨hb, hF⟩
          · refine RK.of (RN.icf (cd := .ne) (off := 7) (tgt := 59) (by decide +kernel) (mif_nen hb)) ?_
            refine RK.of (RN.blk (ops := [(55, .iconst 1)]) (pc' := 56) (lv' := [(0, .inr (.inr 298)), (1, .inl u1), (2, .inl u2), (3, .inl u3), (4, .inl v4)]) (st' := [.inl 1]) (h' := h) (cs := []) (by decide +kernel) rfl trivial) ?_
            refine RK.of (RN.goto (off := 4) (tgt := 60) (by decide +kernel)) ?_
            exact RK.sub (Jj3 _ hF) (sub_cons rfl (sub_cons rfl (sub_cons rfl (sub_cons rfl (sub_cons rfl sub_nil)))))
          · refine RK.of (RN.ict (cd := .ne) (off := 7) (tgt := 59) (by decide +kernel) (mif_ne hb)) ?_
            refine RK.of (RN.blk (ops := [(59, .iconst 0)]) (pc' := 60) (lv' := [(0, .inr (.inr 298)), (1, .inl u1), (2, .inl u2), (3, .inl u3), (4, .inl v4)]) (st' := [.inl 0]) (h' := h) (cs := []) (by decide +kernel) rfl trivial) ?_
            exact RK.sub (Jj3 _ hF) (sub_cons rfl (sub_cons rfl (sub_cons rfl (sub_cons rfl (sub_cons rfl sub_nil)))))
      · intro j1 Jj1 hF
        rcases it_of hF with ⟨hb, hF⟩ | ⟨hb, hF⟩
        · refine RK.of (RN.icf (cd := .ne) (off := 7) (tgt := 50) (by decide +kernel) (mif_nen hb)) ?_
          refine RK.of (RN.blk (ops := [(46, .iconst (-1))]) (pc' := 47) (lv' := [(0, .inr (.inr 298)), (1, .inl u1), (2, .inl u2), (3, .inl u3), (4, .inl v4)]) (st' := [.inl (-1), .inl u3]) (h' := h) (cs := []) (by decide +kernel) rfl trivial) ?_
          refine RK.of (RN.goto (off := 5) (tgt := 52) (by decide +kernel)) ?_
          exact RK.sub (Jj1 _ hF) (sub_cons rfl (sub_cons rfl (sub_cons rfl (sub_cons rfl (sub_cons rfl sub_nil)))))
        · refine RK.of (RN.ict (cd := .ne) (off := 7) (tgt := 50) (by decide +kernel) (mif_ne hb)) ?_
          refine RK.of (RN.blk (ops := [(50, .iload 4)]) (pc' := 52) (lv' := [(0, .inr (.inr 298)), (1, .inl u1), (2, .inl u2), (3, .inl u3), (4, .inl v4)]) (st' := [.inl v4, .inl u3]) (h' := h) (cs := []) (by decide +kernel) rfl trivial) ?_
          exact RK.sub (Jj1 _ hF) (sub_cons rfl (sub_cons rfl (sub_cons rfl (sub_cons rfl (sub_cons rfl sub_nil)))))
    · refine RK.of (RN.ict (cd := .ge) (off := 65) (tgt := 100) (by decide +kernel) (mif_ge hb)) ?_
      exact RK.sub (hK0 _ hL hJ hF) (sub_cons rfl (sub_cons rfl (sub_cons rfl sub_nil)))
noncomputable def GX1_fewestEntries_L5 (u1 : Int) (K0 : MH → Option (Int × MH)) : Nat → Int → MH → Option (Int × MH)
  | 0, _, _ => none
  | f + 1, v2, h =>
    gd [TO h (m_rd h 298 0) 8] (
     (if v2 < (m_rd h (m_rd h 298 0) 3) then
      (if v2 < 256 then
       (bd (GX1_holeFor v2 h) (fun x2 h1 =>
        GX1_fewestEntries_L32 u1 v2 x2 (fun h3 =>
         GX1_fewestEntries_L5 u1 K0 f (m_w32 (v2 + 1)) h3) FU 0 h1))
      else
       K0 h)
     else
      K0 h))
theorem DX1_fewestEntries_L5 {d : Nat} {u1 : Int} {K0 : MH → Option (Int × MH)} {r : Int × MH} {h0 hB : MH} (hB0 : KD h0 hB) (hK0 : ∀ (h : MH), LR h → KD hB h → K0 h = some r → RK xs L iX1_fewestEntries (d + 3) 106 [(0, .inr (.inr 298))] [] h (RIo r) h0 r.2) : ∀ (f : Nat) (v2 : Int) (h : MH), LR h → KD hB h → GX1_fewestEntries_L5 u1 K0 f v2 h = some r → RK xs L iX1_fewestEntries (d + 3) 5 [(0, .inr (.inr 298)), (1, .inl u1), (2, .inl v2)] [] h (RIo r) h0 r.2 := by
  intro f
  induction f with
  | zero =>
    intro v2 h hL hJ hF
    cases hF
  | succ f ih =>
    intro v2 h hL hJ hF
    unfold GX1_fewestEntries_L5 at hF
    have hK := hB0.tr hJ
    obtain ⟨hc, hF⟩ := gd_of hF
    refine RK.of (RN.blk (ops := [(5, .iload_n 2), (6, .aload_n 0), (7, .getfield 12), (10, .getfield 38)]) (pc' := 13) (lv' := [(0, .inr (.inr 298)), (1, .inl u1), (2, .inl v2)]) (st' := [.inl (m_rd h (m_rd h 298 0) 3), .inl v2]) (h' := h) (cs := [GK h 298 1, GK h (m_rd h 298 0) 8]) (by decide +kernel) rfl ⟨(o_298 hL).gk, (TO.gk hc.1), trivial⟩) ?_
    rcases it_of hF with ⟨hb, hF⟩ | ⟨hb, hF⟩
    · refine RK.of (RN.icf (cd := .ge) (off := 93) (tgt := 106) (by decide +kernel) (mif_gen hb)) ?_
      refine RK.of (RN.blk (ops := [(16, .iload_n 2), (17, .sipush 256)]) (pc' := 20) (lv' := [(0, .inr (.inr 298)), (1, .inl u1), (2, .inl v2)]) (st' := [.inl 256, .inl v2]) (h' := h) (cs := []) (by decide +kernel) rfl trivial) ?_
      rcases it_of hF with ⟨hb, hF⟩ | ⟨hb, hF⟩
      · refine RK.of (RN.icf (cd := .ge) (off := 86) (tgt := 106) (by decide +kernel) (mif_gen hb)) ?_
        refine RK.of (RN.blk (ops := [(23, .aload_n 0), (24, .iload_n 2)]) (pc' := 25) (lv' := [(0, .inr (.inr 298)), (1, .inl u1), (2, .inl v2)]) (st' := [.inl v2, .inr (.inr 298)]) (h' := h) (cs := []) (by decide +kernel) rfl trivial) ?_
        obtain ⟨x2, h1, hG, hF⟩ := bd_of hF
        have hq := rcv_ok (as := [.inl v2]) (TO.gk (o_298 hL))
        obtain ⟨hN, hL, hQ⟩ := DX1_holeFor (d := d) hL  hG
        refine RK.of (RN.cv (i := 74) (k := 15) (q2 := iX1_holeFor) (as := [.inr (.inr 298), .inl v2]) (r := []) (v := some (.inl x2)) (h1 := h1) (by decide +kernel) rfl rfl rfl rfl rfl hq hN) ?_
        have hK := hK.tr hQ
        have hJ := hJ.tr hQ
        refine RK.of (RN.blk (ops := [(28, .istore_n 3), (29, .iconst 0), (30, .istore 4)]) (pc' := 32) (lv' := [(4, .inl 0), (3, .inl x2), (0, .inr (.inr 298)), (1, .inl u1), (2, .inl v2)]) (st' := []) (h' := h1) (cs := []) (by decide +kernel) rfl trivial) ?_
        refine RK.sub (DX1_fewestEntries_L32 hK ?_ _ _ _ hL KD.rf hF) (sub_cons rfl (sub_cons rfl (sub_cons rfl (sub_cons rfl (sub_cons rfl sub_nil)))))
        · intro h3 hL hq hF
          have hK := hK.tr hq
          have hJ := hJ.tr hq
          refine RK.of (RN.blk (ops := [(100, .iinc 2 1)]) (pc' := 103) (lv' := [(2, .inl (m_w32 (v2 + 1))), (0, .inr (.inr 298)), (1, .inl u1)]) (st' := []) (h' := h3) (cs := []) (by decide +kernel) rfl trivial) ?_
          refine RK.of (RN.goto (off := -98) (tgt := 5) (by decide +kernel)) ?_
          exact RK.sub (ih _ _ hL hJ hF) (sub_cons rfl (sub_cons rfl (sub_cons rfl sub_nil)))
      · refine RK.of (RN.ict (cd := .ge) (off := 86) (tgt := 106) (by decide +kernel) (mif_ge hb)) ?_
        exact RK.sub (hK0 _ hL hJ hF) (sub_cons rfl sub_nil)
    · refine RK.of (RN.ict (cd := .ge) (off := 93) (tgt := 106) (by decide +kernel) (mif_ge hb)) ?_
      exact RK.sub (hK0 _ hL hJ hF) (sub_cons rfl sub_nil)
noncomputable def GX1_fewestEntries_L122 (u2 : Int) (K0 : MH → Option (Int × MH)) : Nat → Int → MH → Option (Int × MH)
  | 0, _, _ => none
  | f + 1, v3, h =>
    gd [TO h (m_rd h 298 0) 8] (bd (GX8_prefixesOf (m_rd h 298 0) u2 h) (fun x2 h1 =>
     (if v3 < x2 then
      (bv (GX1_joinCosts v3 h1) (fun h3 =>
       GX1_fewestEntries_L122 u2 K0 f (m_w32 (v3 + 1)) h3))
     else
      K0 h1)))
theorem DX1_fewestEntries_L122 {d : Nat} {u2 : Int} {K0 : MH → Option (Int × MH)} {r : Int × MH} {h0 hB : MH} (hB0 : KD h0 hB) (hK0 : ∀ (h : MH), LR h → KD hB h → K0 h = some r → RK xs L iX1_fewestEntries (d + 3) 145 [(0, .inr (.inr 298)), (2, .inl u2)] [] h (RIo r) h0 r.2) : ∀ (f : Nat) (v3 : Int) (h : MH), LR h → KD hB h → GX1_fewestEntries_L122 u2 K0 f v3 h = some r → RK xs L iX1_fewestEntries (d + 3) 122 [(0, .inr (.inr 298)), (2, .inl u2), (3, .inl v3)] [] h (RIo r) h0 r.2 := by
  intro f
  induction f with
  | zero =>
    intro v3 h hL hJ hF
    cases hF
  | succ f ih =>
    intro v3 h hL hJ hF
    unfold GX1_fewestEntries_L122 at hF
    have hK := hB0.tr hJ
    refine RK.of (RN.blk (ops := [(122, .iload_n 3), (123, .aload_n 0), (124, .getfield 12), (127, .iload_n 2)]) (pc' := 128) (lv' := [(0, .inr (.inr 298)), (2, .inl u2), (3, .inl v3)]) (st' := [.inl u2, .inr (.inr (m_rd h 298 0)), .inl v3]) (h' := h) (cs := [GK h 298 1]) (by decide +kernel) rfl ⟨(o_298 hL).gk, trivial⟩) ?_
    obtain ⟨hc, hF⟩ := gd_of hF
    obtain ⟨x2, h1, hG, hF⟩ := bd_of hF
    have hq := rcv_ok (as := [.inl u2]) (TO.gk hc.1)
    obtain ⟨hN, hL, hQ⟩ := DX8_prefixesOf (d := d + 2) hL hc.1 hG
    refine RK.of (RN.cv (i := 93) (k := 84) (q2 := iX8_prefixesOf) (as := [.inr (.inr (m_rd h 298 0)), .inl u2]) (r := [.inl v3]) (v := some (.inl x2)) (h1 := h1) (by decide +kernel) rfl rfl rfl rfl rfl hq hN) ?_
    have hK := hK.tr hQ
    have hJ := hJ.tr hQ
    rcases it_of hF with ⟨hb, hF⟩ | ⟨hb, hF⟩
    · refine RK.of (RN.icf (cd := .ge) (off := 14) (tgt := 145) (by decide +kernel) (mif_gen hb)) ?_
      refine RK.of (RN.blk (ops := [(134, .aload_n 0), (135, .iload_n 3)]) (pc' := 136) (lv' := [(0, .inr (.inr 298)), (2, .inl u2), (3, .inl v3)]) (st' := [.inl v3, .inr (.inr 298)]) (h' := h1) (cs := []) (by decide +kernel) rfl trivial) ?_
      obtain ⟨h3, hG, hF⟩ := bv_of hF
      have hq := rcv_ok (as := [.inl v3]) (TO.gk (o_298 hL))
      obtain ⟨hN, hL, hQ⟩ := DX1_joinCosts (d := d + 1) hL  hG
      refine RK.of (RN.cv (i := 96) (k := 28) (q2 := iX1_joinCosts) (as := [.inr (.inr 298), .inl v3]) (r := []) (v := none) (h1 := h3) (by decide +kernel) rfl rfl rfl rfl rfl hq hN) ?_
      have hK := hK.tr hQ
      have hJ := hJ.tr hQ
      refine RK.of (RN.blk (ops := [(139, .iinc 3 1)]) (pc' := 142) (lv' := [(3, .inl (m_w32 (v3 + 1))), (0, .inr (.inr 298)), (2, .inl u2)]) (st' := []) (h' := h3) (cs := []) (by decide +kernel) rfl trivial) ?_
      refine RK.of (RN.goto (off := -20) (tgt := 122) (by decide +kernel)) ?_
      exact RK.sub (ih _ _ hL hJ hF) (sub_cons rfl (sub_cons rfl (sub_cons rfl sub_nil)))
    · refine RK.of (RN.ict (cd := .ge) (off := 14) (tgt := 145) (by decide +kernel) (mif_ge hb)) ?_
      exact RK.sub (hK0 _ hL hJ hF) (sub_cons rfl (sub_cons rfl sub_nil))
noncomputable def GX1_fewestEntries_L116 (K0 : MH → Option (Int × MH)) : Nat → Int → MH → Option (Int × MH)
  | 0, _, _ => none
  | f + 1, v2, h =>
    (if v2 < 0 then
     K0 h
    else
     GX1_fewestEntries_L122 v2 (fun h1 =>
      GX1_fewestEntries_L116 K0 f (m_w32 (v2 + (-1))) h1) FU 0 h)
theorem DX1_fewestEntries_L116 {d : Nat} {K0 : MH → Option (Int × MH)} {r : Int × MH} {h0 hB : MH} (hB0 : KD h0 hB) (hK0 : ∀ (h : MH), LR h → KD hB h → K0 h = some r → RK xs L iX1_fewestEntries (d + 3) 151 [(0, .inr (.inr 298))] [] h (RIo r) h0 r.2) : ∀ (f : Nat) (v2 : Int) (h : MH), LR h → KD hB h → GX1_fewestEntries_L116 K0 f v2 h = some r → RK xs L iX1_fewestEntries (d + 3) 116 [(0, .inr (.inr 298)), (2, .inl v2)] [] h (RIo r) h0 r.2 := by
  intro f
  induction f with
  | zero =>
    intro v2 h hL hJ hF
    cases hF
  | succ f ih =>
    intro v2 h hL hJ hF
    unfold GX1_fewestEntries_L116 at hF
    have hK := hB0.tr hJ
    refine RK.of (RN.blk (ops := [(116, .iload_n 2)]) (pc' := 117) (lv' := [(0, .inr (.inr 298)), (2, .inl v2)]) (st' := [.inl v2]) (h' := h) (cs := []) (by decide +kernel) rfl trivial) ?_
    rcases it_of hF with ⟨hb, hF⟩ | ⟨hb, hF⟩
    · refine RK.of (RN.ift (cd := .lt) (off := 34) (tgt := 151) (by decide +kernel) (mif_lt hb)) ?_
      exact RK.sub (hK0 _ hL hJ hF) (sub_cons rfl sub_nil)
    · refine RK.of (RN.iff (cd := .lt) (off := 34) (tgt := 151) (by decide +kernel) (mif_ltn hb)) ?_
      refine RK.of (RN.blk (ops := [(120, .iconst 0), (121, .istore_n 3)]) (pc' := 122) (lv' := [(3, .inl 0), (0, .inr (.inr 298)), (2, .inl v2)]) (st' := []) (h' := h) (cs := []) (by decide +kernel) rfl trivial) ?_
      refine RK.sub (DX1_fewestEntries_L122 hK ?_ _ _ _ hL KD.rf hF) (sub_cons rfl (sub_cons rfl (sub_cons rfl sub_nil)))
      · intro h1 hL hq hF
        have hK := hK.tr hq
        have hJ := hJ.tr hq
        refine RK.of (RN.blk (ops := [(145, .iinc 2 (-1))]) (pc' := 148) (lv' := [(2, .inl (m_w32 (v2 + (-1)))), (0, .inr (.inr 298))]) (st' := []) (h' := h1) (cs := []) (by decide +kernel) rfl trivial) ?_
        refine RK.of (RN.goto (off := -32) (tgt := 116) (by decide +kernel)) ?_
        exact RK.sub (ih _ _ hL hJ hF) (sub_cons rfl (sub_cons rfl sub_nil))
noncomputable def GX1_fewestEntries (h : MH) : Option (Int × MH) :=
  GX1_fewestEntries_L5 7 (fun h1 =>
   gd [TO h1 (m_rd h1 298 0) 8] (
    GX1_fewestEntries_L116 (fun h2 =>
     some ((m_rd h2 308 6), h2)) FU (m_w32 ((m_rd h1 (m_rd h1 298 0) 1) - 1)) h1)) FU 0 h
theorem DX1_fewestEntries {d : Nat} {h : MH} {r : Int × MH} (hL : LR h) (hF : GX1_fewestEntries h = some r) : RN xs L iX1_fewestEntries (d + 3) 0 (lvE 0 [.inr (.inr 298)]) [] h (RIo r) ∧ LR r.2 ∧ KD h r.2 := by
  unfold GX1_fewestEntries at hF
  have hK : KD h h := KD.rf
  show RK xs L iX1_fewestEntries (d + 3) 0 (lvE 0 [.inr (.inr 298)]) [] h (RIo r) h r.2
  refine RK.of (RN.blk (ops := [(0, .bipush 7), (2, .istore_n 1), (3, .iconst 0), (4, .istore_n 2)]) (pc' := 5) (lv' := [(2, .inl 0), (1, .inl 7), (0, .inr (.inr 298))]) (st' := []) (h' := h) (cs := []) (by decide +kernel) rfl trivial) ?_
  refine RK.sub (DX1_fewestEntries_L5 hK ?_ _ _ _ hL KD.rf hF) (sub_cons rfl (sub_cons rfl (sub_cons rfl sub_nil)))
  · intro h1 hL hq hF
    have hK := hK.tr hq
    obtain ⟨hc, hF⟩ := gd_of hF
    refine RK.of (RN.blk (ops := [(106, .aload_n 0), (107, .getfield 12), (110, .getfield 42), (113, .iconst 1), (114, .isub), (115, .istore_n 2)]) (pc' := 116) (lv' := [(2, .inl (m_w32 ((m_rd h1 (m_rd h1 298 0) 1) - 1))), (0, .inr (.inr 298))]) (st' := []) (h' := h1) (cs := [GK h1 298 1, GK h1 (m_rd h1 298 0) 8]) (by decide +kernel) rfl ⟨(o_298 hL).gk, (TO.gk hc.1), trivial⟩) ?_
    refine RK.sub (DX1_fewestEntries_L116 hK ?_ _ _ _ hL KD.rf hF) (sub_cons rfl (sub_cons rfl sub_nil))
    · intro h2 hL hq hF
      have hK := hK.tr hq
      refine RK.of (RN.blk (ops := [(151, .aload_n 0)]) (pc' := 152) (lv' := [(0, .inr (.inr 298))]) (st' := [.inr (.inr 298)]) (h' := h2) (cs := []) (by decide +kernel) rfl trivial) ?_
      refine RK.of (RN.gr (i := 32) (ci := 1) (k := 4) (fn := true) (v := 308) (by decide +kernel) rfl (TO.gk (o_298 hL)) (hL.fa (v := 308) 4 1 1792 (o_298 hL) rfl (by decide) rfl (by decide)).1) ?_
      refine RK.of (RN.blk (ops := [(155, .bipush 6), (157, .iaload)]) (pc' := 158) (lv' := [(0, .inr (.inr 298))]) (st' := [.inl (m_rd h2 308 6)]) (h' := h2) (cs := [GI h2 308 1 6]) (by decide +kernel) rfl ⟨(a_308 hL).gi (by decide) (by decide), trivial⟩) ?_
      exact RK.iR (by decide +kernel) rfl hL hK hF
noncomputable def GX4_copyFrom (t : Int) (a1 : Int) (h : MH) : Option (MH) :=
  hl (m_cpy (m_cpy (m_wr h t 0 (m_rd h a1 0)) (a1 + 1) 0 (t + 1) 0 12) (a1 + 2) 0 (t + 2) 0 12) (fun h1 =>
   some (m_cpy h1 (a1 + 3) 0 (t + 3) 0 12))
theorem DX4_copyFrom {d : Nat} {t : Int} {a1 : Int} {h : MH} {r : MH} (hL : LR h) (k0_t : TO h t 4) (k0_a1 : TO h a1 4) (hF : GX4_copyFrom t a1 h = some r) : RN xs L iX4_copyFrom (d + 1) 0 (lvE 0 [.inr (.inr t), .inr (.inr a1)]) [] h (RVo r) ∧ LR r ∧ KD h r := by
  unfold GX4_copyFrom at hF
  have hK : KD h h := KD.rf
  have k_t := k0_t
  have k_a1 := k0_a1
  show RK xs L iX4_copyFrom (d + 1) 0 (lvE 0 [.inr (.inr t), .inr (.inr a1)]) [] h (RVo r) h r
  refine RK.of (RN.blk (ops := [(0, .aload_n 0), (1, .aload_n 1), (2, .getfield 21), (5, .putfield 21)]) (pc' := 8) (lv' := [(0, .inr (.inr t)), (1, .inr (.inr a1))]) (st' := []) (h' := (m_wr h t 0 (m_rd h a1 0))) (cs := [GK h a1 4, GK h t 4]) (by decide +kernel) rfl ⟨k_a1.gk, k_t.gk, trivial⟩) ?_
  have hL : LR (m_wr h t 0 (m_rd h a1 0)) := LR.wf (k := 0) hL k_t rfl
  have k_a1 := (KD.wr : KD h (m_wr h t 0 (m_rd h a1 0))).to k_a1
  have k_t := (KD.wr : KD h (m_wr h t 0 (m_rd h a1 0))).to k_t
  have hK := hK.tr (KD.wr : KD h (m_wr h t 0 (m_rd h a1 0)))
  refine RK.of (RN.blk (ops := [(8, .aload_n 1)]) (pc' := 9) (lv' := [(0, .inr (.inr t)), (1, .inr (.inr a1))]) (st' := [.inr (.inr a1)]) (h' := (m_wr h t 0 (m_rd h a1 0))) (cs := []) (by decide +kernel) rfl trivial) ?_
  refine RK.of (RN.gr (i := 9) (ci := 4) (k := 1) (fn := true) (v := (a1 + 1)) (by decide +kernel) rfl (TO.gk k_a1) (hL.fa (v := (a1 + 1)) 1 1 12 k_a1 rfl rfl rfl (by decide)).1) ?_
  refine RK.of (RN.blk (ops := [(12, .iconst 0), (13, .aload_n 0)]) (pc' := 14) (lv' := [(0, .inr (.inr t)), (1, .inr (.inr a1))]) (st' := [.inr (.inr t), .inl 0, .inr (.inr (a1 + 1))]) (h' := (m_wr h t 0 (m_rd h a1 0))) (cs := []) (by decide +kernel) rfl trivial) ?_
  refine RK.of (RN.gr (i := 9) (ci := 4) (k := 1) (fn := true) (v := (t + 1)) (by decide +kernel) rfl (TO.gk k_t) (hL.fa (v := (t + 1)) 1 1 12 k_t rfl rfl rfl (by decide)).1) ?_
  refine RK.of (RN.blk (ops := [(17, .iconst 0), (18, .bipush 12)]) (pc' := 20) (lv' := [(0, .inr (.inr t)), (1, .inr (.inr a1))]) (st' := [.inl 12, .inl 0, .inr (.inr (t + 1)), .inl 0, .inr (.inr (a1 + 1))]) (h' := (m_wr h t 0 (m_rd h a1 0))) (cs := []) (by decide +kernel) rfl trivial) ?_
  have hG : GC (m_wr h t 0 (m_rd h a1 0)) (a1 + 1) 0 (t + 1) 0 12 := ((hL.fa 1 1 12 k_a1 rfl rfl rfl (by decide)).2.gc (hL.fa 1 1 12 k_t rfl rfl rfl (by decide)).2 (by decide) (by decide) (by decide) (by decide) (by decide))
  refine RK.of (RN.cp (i := 25) (by decide +kernel) rfl rfl hG) ?_
  have hL : LR (m_cpy (m_wr h t 0 (m_rd h a1 0)) (a1 + 1) 0 (t + 1) 0 12) := hL.wc (by rw [hG.2.1]; decide)
  have k_a1 := (KD.cpy : KD (m_wr h t 0 (m_rd h a1 0)) (m_cpy (m_wr h t 0 (m_rd h a1 0)) (a1 + 1) 0 (t + 1) 0 12)).to k_a1
  have k_t := (KD.cpy : KD (m_wr h t 0 (m_rd h a1 0)) (m_cpy (m_wr h t 0 (m_rd h a1 0)) (a1 + 1) 0 (t + 1) 0 12)).to k_t
  have hK := hK.tr (KD.cpy : KD (m_wr h t 0 (m_rd h a1 0)) (m_cpy (m_wr h t 0 (m_rd h a1 0)) (a1 + 1) 0 (t + 1) 0 12))
  refine RK.of (RN.blk (ops := [(23, .aload_n 1)]) (pc' := 24) (lv' := [(0, .inr (.inr t)), (1, .inr (.inr a1))]) (st' := [.inr (.inr a1)]) (h' := (m_cpy (m_wr h t 0 (m_rd h a1 0)) (a1 + 1) 0 (t + 1) 0 12)) (cs := []) (by decide +kernel) rfl trivial) ?_
  refine RK.of (RN.gr (i := 15) (ci := 4) (k := 2) (fn := true) (v := (a1 + 2)) (by decide +kernel) rfl (TO.gk k_a1) (hL.fa (v := (a1 + 2)) 2 1 12 k_a1 rfl rfl rfl (by decide)).1) ?_
  refine RK.of (RN.blk (ops := [(27, .iconst 0), (28, .aload_n 0)]) (pc' := 29) (lv' := [(0, .inr (.inr t)), (1, .inr (.inr a1))]) (st' := [.inr (.inr t), .inl 0, .inr (.inr (a1 + 2))]) (h' := (m_cpy (m_wr h t 0 (m_rd h a1 0)) (a1 + 1) 0 (t + 1) 0 12)) (cs := []) (by decide +kernel) rfl trivial) ?_
  refine RK.of (RN.gr (i := 15) (ci := 4) (k := 2) (fn := true) (v := (t + 2)) (by decide +kernel) rfl (TO.gk k_t) (hL.fa (v := (t + 2)) 2 1 12 k_t rfl rfl rfl (by decide)).1) ?_
  refine RK.of (RN.blk (ops := [(32, .iconst 0), (33, .bipush 12)]) (pc' := 35) (lv' := [(0, .inr (.inr t)), (1, .inr (.inr a1))]) (st' := [.inl 12, .inl 0, .inr (.inr (t + 2)), .inl 0, .inr (.inr (a1 + 2))]) (h' := (m_cpy (m_wr h t 0 (m_rd h a1 0)) (a1 + 1) 0 (t + 1) 0 12)) (cs := []) (by decide +kernel) rfl trivial) ?_
  have hG : GC (m_cpy (m_wr h t 0 (m_rd h a1 0)) (a1 + 1) 0 (t + 1) 0 12) (a1 + 2) 0 (t + 2) 0 12 := ((hL.fa 2 1 12 k_a1 rfl rfl rfl (by decide)).2.gc (hL.fa 2 1 12 k_t rfl rfl rfl (by decide)).2 (by decide) (by decide) (by decide) (by decide) (by decide))
  refine RK.of (RN.cp (i := 25) (by decide +kernel) rfl rfl hG) ?_
  have hL : LR (m_cpy (m_cpy (m_wr h t 0 (m_rd h a1 0)) (a1 + 1) 0 (t + 1) 0 12) (a1 + 2) 0 (t + 2) 0 12) := hL.wc (by rw [hG.2.1]; decide)
  have k_a1 := (KD.cpy : KD (m_cpy (m_wr h t 0 (m_rd h a1 0)) (a1 + 1) 0 (t + 1) 0 12) (m_cpy (m_cpy (m_wr h t 0 (m_rd h a1 0)) (a1 + 1) 0 (t + 1) 0 12) (a1 + 2) 0 (t + 2) 0 12)).to k_a1
  have k_t := (KD.cpy : KD (m_cpy (m_wr h t 0 (m_rd h a1 0)) (a1 + 1) 0 (t + 1) 0 12) (m_cpy (m_cpy (m_wr h t 0 (m_rd h a1 0)) (a1 + 1) 0 (t + 1) 0 12) (a1 + 2) 0 (t + 2) 0 12)).to k_t
  have hK := hK.tr (KD.cpy : KD (m_cpy (m_wr h t 0 (m_rd h a1 0)) (a1 + 1) 0 (t + 1) 0 12) (m_cpy (m_cpy (m_wr h t 0 (m_rd h a1 0)) (a1 + 1) 0 (t + 1) 0 12) (a1 + 2) 0 (t + 2) 0 12))
  obtain ⟨h1, he, hF⟩ := hl_of hF
  refine RK.of (RN.hl he) ?_
  rw [← he] at hL hK k_a1 k_t
  refine RK.of (RN.blk (ops := [(38, .aload_n 1)]) (pc' := 39) (lv' := [(0, .inr (.inr t)), (1, .inr (.inr a1))]) (st' := [.inr (.inr a1)]) (h' := h1) (cs := []) (by decide +kernel) rfl trivial) ?_
  refine RK.of (RN.gr (i := 18) (ci := 4) (k := 3) (fn := true) (v := (a1 + 3)) (by decide +kernel) rfl (TO.gk k_a1) (hL.fa (v := (a1 + 3)) 3 1 12 k_a1 rfl rfl rfl (by decide)).1) ?_
  refine RK.of (RN.blk (ops := [(42, .iconst 0), (43, .aload_n 0)]) (pc' := 44) (lv' := [(0, .inr (.inr t)), (1, .inr (.inr a1))]) (st' := [.inr (.inr t), .inl 0, .inr (.inr (a1 + 3))]) (h' := h1) (cs := []) (by decide +kernel) rfl trivial) ?_
  refine RK.of (RN.gr (i := 18) (ci := 4) (k := 3) (fn := true) (v := (t + 3)) (by decide +kernel) rfl (TO.gk k_t) (hL.fa (v := (t + 3)) 3 1 12 k_t rfl rfl rfl (by decide)).1) ?_
  refine RK.of (RN.blk (ops := [(47, .iconst 0), (48, .bipush 12)]) (pc' := 50) (lv' := [(0, .inr (.inr t)), (1, .inr (.inr a1))]) (st' := [.inl 12, .inl 0, .inr (.inr (t + 3)), .inl 0, .inr (.inr (a1 + 3))]) (h' := h1) (cs := []) (by decide +kernel) rfl trivial) ?_
  have hG : GC h1 (a1 + 3) 0 (t + 3) 0 12 := ((hL.fa 3 1 12 k_a1 rfl rfl rfl (by decide)).2.gc (hL.fa 3 1 12 k_t rfl rfl rfl (by decide)).2 (by decide) (by decide) (by decide) (by decide) (by decide))
  refine RK.of (RN.cp (i := 25) (by decide +kernel) rfl rfl hG) ?_
  have hL : LR (m_cpy h1 (a1 + 3) 0 (t + 3) 0 12) := hL.wc (by rw [hG.2.1]; decide)
  have k_a1 := (KD.cpy : KD h1 (m_cpy h1 (a1 + 3) 0 (t + 3) 0 12)).to k_a1
  have k_t := (KD.cpy : KD h1 (m_cpy h1 (a1 + 3) 0 (t + 3) 0 12)).to k_t
  have hK := hK.tr (KD.cpy : KD h1 (m_cpy h1 (a1 + 3) 0 (t + 3) 0 12))
  exact RK.vR (by decide +kernel) rfl hL hK hF
noncomputable def GX10_copyFrom (t : Int) (a1 : Int) (h : MH) : Option (MH) :=
  (bv (GX4_copyFrom (t + 1) (a1 + 1) h) (fun h1 =>
   hl (m_wr (m_wr h1 t 1 (m_rd h1 a1 1)) t 5 (m_rd (m_wr h1 t 1 (m_rd h1 a1 1)) a1 5)) (fun h2 =>
    hl (m_cpy (m_cpy (m_wr h2 t 6 (m_rd h2 a1 6)) (a1 + 5) 0 (t + 5) 0 20) (a1 + 6) 0 (t + 6) 0 6) (fun h3 =>
     some (m_cpy h3 (a1 + 7) 0 (t + 7) 0 6)))))
theorem DX10_copyFrom {d : Nat} {t : Int} {a1 : Int} {h : MH} {r : MH} (hL : LR h) (k0_t : TO h t 10) (k0_a1 : TO h a1 10) (hF : GX10_copyFrom t a1 h = some r) : RN xs L iX10_copyFrom (d + 2) 0 (lvE 0 [.inr (.inr t), .inr (.inr a1)]) [] h (RVo r) ∧ LR r ∧ KD h r := by
  unfold GX10_copyFrom at hF
  have hK : KD h h := KD.rf
  have k_t := k0_t
  have k_a1 := k0_a1
  show RK xs L iX10_copyFrom (d + 2) 0 (lvE 0 [.inr (.inr t), .inr (.inr a1)]) [] h (RVo r) h r
  refine RK.of (RN.blk (ops := [(0, .aload_n 0)]) (pc' := 1) (lv' := [(0, .inr (.inr t)), (1, .inr (.inr a1))]) (st' := [.inr (.inr t)]) (h' := h) (cs := []) (by decide +kernel) rfl trivial) ?_
  refine RK.of (RN.gr (i := 12) (ci := 10) (k := 0) (fn := true) (v := (t + 1)) (by decide +kernel) rfl (TO.gk k_t) (hL.fo (v := (t + 1)) 0 4 k_t rfl rfl rfl).1) ?_
  refine RK.of (RN.blk (ops := [(4, .aload_n 1)]) (pc' := 5) (lv' := [(0, .inr (.inr t)), (1, .inr (.inr a1))]) (st' := [.inr (.inr a1), .inr (.inr (t + 1))]) (h' := h) (cs := []) (by decide +kernel) rfl trivial) ?_
  refine RK.of (RN.gr (i := 12) (ci := 10) (k := 0) (fn := true) (v := (a1 + 1)) (by decide +kernel) rfl (TO.gk k_a1) (hL.fo (v := (a1 + 1)) 0 4 k_a1 rfl rfl rfl).1) ?_
  obtain ⟨h1, hG, hF⟩ := bv_of hF
  have hq := rcv_ok (as := [.inr (.inr (a1 + 1))]) (TO.gk (hL.fo 0 4 k_t rfl rfl rfl).2)
  obtain ⟨hN, hL, hQ⟩ := DX4_copyFrom (d := d) hL (hL.fo 0 4 k_t rfl rfl rfl).2 (hL.fo 0 4 k_a1 rfl rfl rfl).2 hG
  refine RK.of (RN.cv (i := 41) (k := 45) (q2 := iX4_copyFrom) (as := [.inr (.inr (t + 1)), .inr (.inr (a1 + 1))]) (r := []) (v := none) (h1 := h1) (by decide +kernel) rfl rfl rfl rfl rfl hq hN) ?_
  have k_a1 := hQ.to k_a1
  have k_t := hQ.to k_t
  have hK := hK.tr hQ
  refine RK.of (RN.blk (ops := [(11, .aload_n 0), (12, .aload_n 1), (13, .getfield 32), (16, .putfield 32)]) (pc' := 19) (lv' := [(0, .inr (.inr t)), (1, .inr (.inr a1))]) (st' := []) (h' := (m_wr h1 t 1 (m_rd h1 a1 1))) (cs := [GK h1 a1 10, GK h1 t 10]) (by decide +kernel) rfl ⟨k_a1.gk, k_t.gk, trivial⟩) ?_
  have hL : LR (m_wr h1 t 1 (m_rd h1 a1 1)) := LR.wf (k := 1) hL k_t rfl
  have k_a1 := (KD.wr : KD h1 (m_wr h1 t 1 (m_rd h1 a1 1))).to k_a1
  have k_t := (KD.wr : KD h1 (m_wr h1 t 1 (m_rd h1 a1 1))).to k_t
  have hK := hK.tr (KD.wr : KD h1 (m_wr h1 t 1 (m_rd h1 a1 1)))
  refine RK.of (RN.blk (ops := [(19, .aload_n 0), (20, .aload_n 1), (21, .getfield 35), (24, .putfield 35)]) (pc' := 27) (lv' := [(0, .inr (.inr t)), (1, .inr (.inr a1))]) (st' := []) (h' := (m_wr (m_wr h1 t 1 (m_rd h1 a1 1)) t 5 (m_rd (m_wr h1 t 1 (m_rd h1 a1 1)) a1 5))) (cs := [GK (m_wr h1 t 1 (m_rd h1 a1 1)) a1 10, GK (m_wr h1 t 1 (m_rd h1 a1 1)) t 10]) (by decide +kernel) rfl ⟨k_a1.gk, k_t.gk, trivial⟩) ?_
  have hL : LR (m_wr (m_wr h1 t 1 (m_rd h1 a1 1)) t 5 (m_rd (m_wr h1 t 1 (m_rd h1 a1 1)) a1 5)) := LR.wf (k := 5) hL k_t rfl
  have k_a1 := (KD.wr : KD (m_wr h1 t 1 (m_rd h1 a1 1)) (m_wr (m_wr h1 t 1 (m_rd h1 a1 1)) t 5 (m_rd (m_wr h1 t 1 (m_rd h1 a1 1)) a1 5))).to k_a1
  have k_t := (KD.wr : KD (m_wr h1 t 1 (m_rd h1 a1 1)) (m_wr (m_wr h1 t 1 (m_rd h1 a1 1)) t 5 (m_rd (m_wr h1 t 1 (m_rd h1 a1 1)) a1 5))).to k_t
  have hK := hK.tr (KD.wr : KD (m_wr h1 t 1 (m_rd h1 a1 1)) (m_wr (m_wr h1 t 1 (m_rd h1 a1 1)) t 5 (m_rd (m_wr h1 t 1 (m_rd h1 a1 1)) a1 5)))
  obtain ⟨h2, he, hF⟩ := hl_of hF
  refine RK.of (RN.hl he) ?_
  rw [← he] at hL hK k_a1 k_t
  refine RK.of (RN.blk (ops := [(27, .aload_n 0), (28, .aload_n 1), (29, .getfield 38), (32, .putfield 38)]) (pc' := 35) (lv' := [(0, .inr (.inr t)), (1, .inr (.inr a1))]) (st' := []) (h' := (m_wr h2 t 6 (m_rd h2 a1 6))) (cs := [GK h2 a1 10, GK h2 t 10]) (by decide +kernel) rfl ⟨k_a1.gk, k_t.gk, trivial⟩) ?_
  have hL : LR (m_wr h2 t 6 (m_rd h2 a1 6)) := LR.wf (k := 6) hL k_t rfl
  have k_a1 := (KD.wr : KD h2 (m_wr h2 t 6 (m_rd h2 a1 6))).to k_a1
  have k_t := (KD.wr : KD h2 (m_wr h2 t 6 (m_rd h2 a1 6))).to k_t
  have hK := hK.tr (KD.wr : KD h2 (m_wr h2 t 6 (m_rd h2 a1 6)))
  refine RK.of (RN.blk (ops := [(35, .aload_n 1)]) (pc' := 36) (lv' := [(0, .inr (.inr t)), (1, .inr (.inr a1))]) (st' := [.inr (.inr a1)]) (h' := (m_wr h2 t 6 (m_rd h2 a1 6))) (cs := []) (by decide +kernel) rfl trivial) ?_
  refine RK.of (RN.gr (i := 18) (ci := 10) (k := 2) (fn := true) (v := (a1 + 5)) (by decide +kernel) rfl (TO.gk k_a1) (hL.fa (v := (a1 + 5)) 2 1 20 k_a1 rfl rfl rfl (by decide)).1) ?_
  refine RK.of (RN.blk (ops := [(39, .iconst 0), (40, .aload_n 0)]) (pc' := 41) (lv' := [(0, .inr (.inr t)), (1, .inr (.inr a1))]) (st' := [.inr (.inr t), .inl 0, .inr (.inr (a1 + 5))]) (h' := (m_wr h2 t 6 (m_rd h2 a1 6))) (cs := []) (by decide +kernel) rfl trivial) ?_
  refine RK.of (RN.gr (i := 18) (ci := 10) (k := 2) (fn := true) (v := (t + 5)) (by decide +kernel) rfl (TO.gk k_t) (hL.fa (v := (t + 5)) 2 1 20 k_t rfl rfl rfl (by decide)).1) ?_
  refine RK.of (RN.blk (ops := [(44, .iconst 0), (45, .bipush 20)]) (pc' := 47) (lv' := [(0, .inr (.inr t)), (1, .inr (.inr a1))]) (st' := [.inl 20, .inl 0, .inr (.inr (t + 5)), .inl 0, .inr (.inr (a1 + 5))]) (h' := (m_wr h2 t 6 (m_rd h2 a1 6))) (cs := []) (by decide +kernel) rfl trivial) ?_
  have hG : GC (m_wr h2 t 6 (m_rd h2 a1 6)) (a1 + 5) 0 (t + 5) 0 20 := ((hL.fa 2 1 20 k_a1 rfl rfl rfl (by decide)).2.gc (hL.fa 2 1 20 k_t rfl rfl rfl (by decide)).2 (by decide) (by decide) (by decide) (by decide) (by decide))
  refine RK.of (RN.cp (i := 45) (by decide +kernel) rfl rfl hG) ?_
  have hL : LR (m_cpy (m_wr h2 t 6 (m_rd h2 a1 6)) (a1 + 5) 0 (t + 5) 0 20) := hL.wc (by rw [hG.2.1]; decide)
  have k_a1 := (KD.cpy : KD (m_wr h2 t 6 (m_rd h2 a1 6)) (m_cpy (m_wr h2 t 6 (m_rd h2 a1 6)) (a1 + 5) 0 (t + 5) 0 20)).to k_a1
  have k_t := (KD.cpy : KD (m_wr h2 t 6 (m_rd h2 a1 6)) (m_cpy (m_wr h2 t 6 (m_rd h2 a1 6)) (a1 + 5) 0 (t + 5) 0 20)).to k_t
  have hK := hK.tr (KD.cpy : KD (m_wr h2 t 6 (m_rd h2 a1 6)) (m_cpy (m_wr h2 t 6 (m_rd h2 a1 6)) (a1 + 5) 0 (t + 5) 0 20))
  refine RK.of (RN.blk (ops := [(50, .aload_n 1)]) (pc' := 51) (lv' := [(0, .inr (.inr t)), (1, .inr (.inr a1))]) (st' := [.inr (.inr a1)]) (h' := (m_cpy (m_wr h2 t 6 (m_rd h2 a1 6)) (a1 + 5) 0 (t + 5) 0 20)) (cs := []) (by decide +kernel) rfl trivial) ?_
  refine RK.of (RN.gr (i := 22) (ci := 10) (k := 3) (fn := true) (v := (a1 + 6)) (by decide +kernel) rfl (TO.gk k_a1) (hL.fa (v := (a1 + 6)) 3 1 6 k_a1 rfl rfl rfl (by decide)).1) ?_
  refine RK.of (RN.blk (ops := [(54, .iconst 0), (55, .aload_n 0)]) (pc' := 56) (lv' := [(0, .inr (.inr t)), (1, .inr (.inr a1))]) (st' := [.inr (.inr t), .inl 0, .inr (.inr (a1 + 6))]) (h' := (m_cpy (m_wr h2 t 6 (m_rd h2 a1 6)) (a1 + 5) 0 (t + 5) 0 20)) (cs := []) (by decide +kernel) rfl trivial) ?_
  refine RK.of (RN.gr (i := 22) (ci := 10) (k := 3) (fn := true) (v := (t + 6)) (by decide +kernel) rfl (TO.gk k_t) (hL.fa (v := (t + 6)) 3 1 6 k_t rfl rfl rfl (by decide)).1) ?_
  refine RK.of (RN.blk (ops := [(59, .iconst 0), (60, .bipush 6)]) (pc' := 62) (lv' := [(0, .inr (.inr t)), (1, .inr (.inr a1))]) (st' := [.inl 6, .inl 0, .inr (.inr (t + 6)), .inl 0, .inr (.inr (a1 + 6))]) (h' := (m_cpy (m_wr h2 t 6 (m_rd h2 a1 6)) (a1 + 5) 0 (t + 5) 0 20)) (cs := []) (by decide +kernel) rfl trivial) ?_
  have hG : GC (m_cpy (m_wr h2 t 6 (m_rd h2 a1 6)) (a1 + 5) 0 (t + 5) 0 20) (a1 + 6) 0 (t + 6) 0 6 := ((hL.fa 3 1 6 k_a1 rfl rfl rfl (by decide)).2.gc (hL.fa 3 1 6 k_t rfl rfl rfl (by decide)).2 (by decide) (by decide) (by decide) (by decide) (by decide))
  refine RK.of (RN.cp (i := 45) (by decide +kernel) rfl rfl hG) ?_
  have hL : LR (m_cpy (m_cpy (m_wr h2 t 6 (m_rd h2 a1 6)) (a1 + 5) 0 (t + 5) 0 20) (a1 + 6) 0 (t + 6) 0 6) := hL.wc (by rw [hG.2.1]; decide)
  have k_a1 := (KD.cpy : KD (m_cpy (m_wr h2 t 6 (m_rd h2 a1 6)) (a1 + 5) 0 (t + 5) 0 20) (m_cpy (m_cpy (m_wr h2 t 6 (m_rd h2 a1 6)) (a1 + 5) 0 (t + 5) 0 20) (a1 + 6) 0 (t + 6) 0 6)).to k_a1
  have k_t := (KD.cpy : KD (m_cpy (m_wr h2 t 6 (m_rd h2 a1 6)) (a1 + 5) 0 (t + 5) 0 20) (m_cpy (m_cpy (m_wr h2 t 6 (m_rd h2 a1 6)) (a1 + 5) 0 (t + 5) 0 20) (a1 + 6) 0 (t + 6) 0 6)).to k_t
  have hK := hK.tr (KD.cpy : KD (m_cpy (m_wr h2 t 6 (m_rd h2 a1 6)) (a1 + 5) 0 (t + 5) 0 20) (m_cpy (m_cpy (m_wr h2 t 6 (m_rd h2 a1 6)) (a1 + 5) 0 (t + 5) 0 20) (a1 + 6) 0 (t + 6) 0 6))
  obtain ⟨h3, he, hF⟩ := hl_of hF
  refine RK.of (RN.hl he) ?_
  rw [← he] at hL hK k_a1 k_t
  refine RK.of (RN.blk (ops := [(65, .aload_n 1)]) (pc' := 66) (lv' := [(0, .inr (.inr t)), (1, .inr (.inr a1))]) (st' := [.inr (.inr a1)]) (h' := h3) (cs := []) (by decide +kernel) rfl trivial) ?_
  refine RK.of (RN.gr (i := 25) (ci := 10) (k := 4) (fn := true) (v := (a1 + 7)) (by decide +kernel) rfl (TO.gk k_a1) (hL.fa (v := (a1 + 7)) 4 1 6 k_a1 rfl rfl rfl (by decide)).1) ?_
  refine RK.of (RN.blk (ops := [(69, .iconst 0), (70, .aload_n 0)]) (pc' := 71) (lv' := [(0, .inr (.inr t)), (1, .inr (.inr a1))]) (st' := [.inr (.inr t), .inl 0, .inr (.inr (a1 + 7))]) (h' := h3) (cs := []) (by decide +kernel) rfl trivial) ?_
  refine RK.of (RN.gr (i := 25) (ci := 10) (k := 4) (fn := true) (v := (t + 7)) (by decide +kernel) rfl (TO.gk k_t) (hL.fa (v := (t + 7)) 4 1 6 k_t rfl rfl rfl (by decide)).1) ?_
  refine RK.of (RN.blk (ops := [(74, .iconst 0), (75, .bipush 6)]) (pc' := 77) (lv' := [(0, .inr (.inr t)), (1, .inr (.inr a1))]) (st' := [.inl 6, .inl 0, .inr (.inr (t + 7)), .inl 0, .inr (.inr (a1 + 7))]) (h' := h3) (cs := []) (by decide +kernel) rfl trivial) ?_
  have hG : GC h3 (a1 + 7) 0 (t + 7) 0 6 := ((hL.fa 4 1 6 k_a1 rfl rfl rfl (by decide)).2.gc (hL.fa 4 1 6 k_t rfl rfl rfl (by decide)).2 (by decide) (by decide) (by decide) (by decide) (by decide))
  refine RK.of (RN.cp (i := 45) (by decide +kernel) rfl rfl hG) ?_
  have hL : LR (m_cpy h3 (a1 + 7) 0 (t + 7) 0 6) := hL.wc (by rw [hG.2.1]; decide)
  have k_a1 := (KD.cpy : KD h3 (m_cpy h3 (a1 + 7) 0 (t + 7) 0 6)).to k_a1
  have k_t := (KD.cpy : KD h3 (m_cpy h3 (a1 + 7) 0 (t + 7) 0 6)).to k_t
  have hK := hK.tr (KD.cpy : KD h3 (m_cpy h3 (a1 + 7) 0 (t + 7) 0 6))
  exact RK.vR (by decide +kernel) rfl hL hK hF
noncomputable def GX8_copyFrom (t : Int) (a1 : Int) (h : MH) : Option (MH) :=
  hl (m_wr (m_wr h t 0 (m_rd h a1 0)) t 1 (m_rd (m_wr h t 0 (m_rd h a1 0)) a1 1)) (fun h1 =>
   hl (m_wr (m_wr h1 t 2 (m_rd h1 a1 2)) t 3 (m_rd (m_wr h1 t 2 (m_rd h1 a1 2)) a1 3)) (fun h2 =>
    some (m_cpy (m_cpy h2 (a1 + 1) 0 (t + 1) 0 5) (a1 + 2) 0 (t + 2) 0 6)))
theorem DX8_copyFrom {d : Nat} {t : Int} {a1 : Int} {h : MH} {r : MH} (hL : LR h) (k0_t : TO h t 8) (k0_a1 : TO h a1 8) (hF : GX8_copyFrom t a1 h = some r) : RN xs L iX8_copyFrom (d + 1) 0 (lvE 0 [.inr (.inr t), .inr (.inr a1)]) [] h (RVo r) ∧ LR r ∧ KD h r := by
  unfold GX8_copyFrom at hF
  have hK : KD h h := KD.rf
  have k_t := k0_t
  have k_a1 := k0_a1
  show RK xs L iX8_copyFrom (d + 1) 0 (lvE 0 [.inr (.inr t), .inr (.inr a1)]) [] h (RVo r) h r
  refine RK.of (RN.blk (ops := [(0, .aload_n 0), (1, .aload_n 1), (2, .getfield 18), (5, .putfield 18)]) (pc' := 8) (lv' := [(0, .inr (.inr t)), (1, .inr (.inr a1))]) (st' := []) (h' := (m_wr h t 0 (m_rd h a1 0))) (cs := [GK h a1 8, GK h t 8]) (by decide +kernel) rfl ⟨k_a1.gk, k_t.gk, trivial⟩) ?_
  have hL : LR (m_wr h t 0 (m_rd h a1 0)) := LR.wf (k := 0) hL k_t rfl
  have k_a1 := (KD.wr : KD h (m_wr h t 0 (m_rd h a1 0))).to k_a1
  have k_t := (KD.wr : KD h (m_wr h t 0 (m_rd h a1 0))).to k_t
  have hK := hK.tr (KD.wr : KD h (m_wr h t 0 (m_rd h a1 0)))
  refine RK.of (RN.blk (ops := [(8, .aload_n 0), (9, .aload_n 1), (10, .getfield 22), (13, .putfield 22)]) (pc' := 16) (lv' := [(0, .inr (.inr t)), (1, .inr (.inr a1))]) (st' := []) (h' := (m_wr (m_wr h t 0 (m_rd h a1 0)) t 1 (m_rd (m_wr h t 0 (m_rd h a1 0)) a1 1))) (cs := [GK (m_wr h t 0 (m_rd h a1 0)) a1 8, GK (m_wr h t 0 (m_rd h a1 0)) t 8]) (by decide +kernel) rfl ⟨k_a1.gk, k_t.gk, trivial⟩) ?_
  have hL : LR (m_wr (m_wr h t 0 (m_rd h a1 0)) t 1 (m_rd (m_wr h t 0 (m_rd h a1 0)) a1 1)) := LR.wf (k := 1) hL k_t rfl
  have k_a1 := (KD.wr : KD (m_wr h t 0 (m_rd h a1 0)) (m_wr (m_wr h t 0 (m_rd h a1 0)) t 1 (m_rd (m_wr h t 0 (m_rd h a1 0)) a1 1))).to k_a1
  have k_t := (KD.wr : KD (m_wr h t 0 (m_rd h a1 0)) (m_wr (m_wr h t 0 (m_rd h a1 0)) t 1 (m_rd (m_wr h t 0 (m_rd h a1 0)) a1 1))).to k_t
  have hK := hK.tr (KD.wr : KD (m_wr h t 0 (m_rd h a1 0)) (m_wr (m_wr h t 0 (m_rd h a1 0)) t 1 (m_rd (m_wr h t 0 (m_rd h a1 0)) a1 1)))
  obtain ⟨h1, he, hF⟩ := hl_of hF
  refine RK.of (RN.hl he) ?_
  rw [← he] at hL hK k_a1 k_t
  refine RK.of (RN.blk (ops := [(16, .aload_n 0), (17, .aload_n 1), (18, .getfield 25), (21, .putfield 25)]) (pc' := 24) (lv' := [(0, .inr (.inr t)), (1, .inr (.inr a1))]) (st' := []) (h' := (m_wr h1 t 2 (m_rd h1 a1 2))) (cs := [GK h1 a1 8, GK h1 t 8]) (by decide +kernel) rfl ⟨k_a1.gk, k_t.gk, trivial⟩) ?_
  have hL : LR (m_wr h1 t 2 (m_rd h1 a1 2)) := LR.wf (k := 2) hL k_t rfl
  have k_a1 := (KD.wr : KD h1 (m_wr h1 t 2 (m_rd h1 a1 2))).to k_a1
  have k_t := (KD.wr : KD h1 (m_wr h1 t 2 (m_rd h1 a1 2))).to k_t
  have hK := hK.tr (KD.wr : KD h1 (m_wr h1 t 2 (m_rd h1 a1 2)))
  refine RK.of (RN.blk (ops := [(24, .aload_n 0), (25, .aload_n 1), (26, .getfield 32), (29, .putfield 32)]) (pc' := 32) (lv' := [(0, .inr (.inr t)), (1, .inr (.inr a1))]) (st' := []) (h' := (m_wr (m_wr h1 t 2 (m_rd h1 a1 2)) t 3 (m_rd (m_wr h1 t 2 (m_rd h1 a1 2)) a1 3))) (cs := [GK (m_wr h1 t 2 (m_rd h1 a1 2)) a1 8, GK (m_wr h1 t 2 (m_rd h1 a1 2)) t 8]) (by decide +kernel) rfl ⟨k_a1.gk, k_t.gk, trivial⟩) ?_
  have hL : LR (m_wr (m_wr h1 t 2 (m_rd h1 a1 2)) t 3 (m_rd (m_wr h1 t 2 (m_rd h1 a1 2)) a1 3)) := LR.wf (k := 3) hL k_t rfl
  have k_a1 := (KD.wr : KD (m_wr h1 t 2 (m_rd h1 a1 2)) (m_wr (m_wr h1 t 2 (m_rd h1 a1 2)) t 3 (m_rd (m_wr h1 t 2 (m_rd h1 a1 2)) a1 3))).to k_a1
  have k_t := (KD.wr : KD (m_wr h1 t 2 (m_rd h1 a1 2)) (m_wr (m_wr h1 t 2 (m_rd h1 a1 2)) t 3 (m_rd (m_wr h1 t 2 (m_rd h1 a1 2)) a1 3))).to k_t
  have hK := hK.tr (KD.wr : KD (m_wr h1 t 2 (m_rd h1 a1 2)) (m_wr (m_wr h1 t 2 (m_rd h1 a1 2)) t 3 (m_rd (m_wr h1 t 2 (m_rd h1 a1 2)) a1 3)))
  obtain ⟨h2, he, hF⟩ := hl_of hF
  refine RK.of (RN.hl he) ?_
  rw [← he] at hL hK k_a1 k_t
  refine RK.of (RN.blk (ops := [(32, .aload_n 1)]) (pc' := 33) (lv' := [(0, .inr (.inr t)), (1, .inr (.inr a1))]) (st' := [.inr (.inr a1)]) (h' := h2) (cs := []) (by decide +kernel) rfl trivial) ?_
  refine RK.of (RN.gr (i := 9) (ci := 8) (k := 4) (fn := true) (v := (a1 + 1)) (by decide +kernel) rfl (TO.gk k_a1) (hL.fa (v := (a1 + 1)) 4 1 5 k_a1 rfl rfl rfl (by decide)).1) ?_
  refine RK.of (RN.blk (ops := [(36, .iconst 0), (37, .aload_n 0)]) (pc' := 38) (lv' := [(0, .inr (.inr t)), (1, .inr (.inr a1))]) (st' := [.inr (.inr t), .inl 0, .inr (.inr (a1 + 1))]) (h' := h2) (cs := []) (by decide +kernel) rfl trivial) ?_
  refine RK.of (RN.gr (i := 9) (ci := 8) (k := 4) (fn := true) (v := (t + 1)) (by decide +kernel) rfl (TO.gk k_t) (hL.fa (v := (t + 1)) 4 1 5 k_t rfl rfl rfl (by decide)).1) ?_
  refine RK.of (RN.blk (ops := [(41, .iconst 0), (42, .aload_n 0)]) (pc' := 43) (lv' := [(0, .inr (.inr t)), (1, .inr (.inr a1))]) (st' := [.inr (.inr t), .inl 0, .inr (.inr (t + 1)), .inl 0, .inr (.inr (a1 + 1))]) (h' := h2) (cs := []) (by decide +kernel) rfl trivial) ?_
  refine RK.of (RN.gr (i := 9) (ci := 8) (k := 4) (fn := true) (v := (t + 1)) (by decide +kernel) rfl (TO.gk k_t) (hL.fa (v := (t + 1)) 4 1 5 k_t rfl rfl rfl (by decide)).1) ?_
  refine RK.of (RN.al (by decide +kernel) (hL.fa 4 1 5 k_t rfl rfl rfl (by decide)).2 (by decide) (by decide)) ?_
  have hG : GC h2 (a1 + 1) 0 (t + 1) 0 5 := ((hL.fa 4 1 5 k_a1 rfl rfl rfl (by decide)).2.gc (hL.fa 4 1 5 k_t rfl rfl rfl (by decide)).2 (by decide) (by decide) (by decide) (by decide) (by decide))
  refine RK.of (RN.cp (i := 35) (by decide +kernel) rfl rfl hG) ?_
  have hL : LR (m_cpy h2 (a1 + 1) 0 (t + 1) 0 5) := hL.wc (by rw [hG.2.1]; decide)
  have k_a1 := (KD.cpy : KD h2 (m_cpy h2 (a1 + 1) 0 (t + 1) 0 5)).to k_a1
  have k_t := (KD.cpy : KD h2 (m_cpy h2 (a1 + 1) 0 (t + 1) 0 5)).to k_t
  have hK := hK.tr (KD.cpy : KD h2 (m_cpy h2 (a1 + 1) 0 (t + 1) 0 5))
  refine RK.of (RN.blk (ops := [(50, .aload_n 1)]) (pc' := 51) (lv' := [(0, .inr (.inr t)), (1, .inr (.inr a1))]) (st' := [.inr (.inr a1)]) (h' := (m_cpy h2 (a1 + 1) 0 (t + 1) 0 5)) (cs := []) (by decide +kernel) rfl trivial) ?_
  refine RK.of (RN.gr (i := 15) (ci := 8) (k := 5) (fn := true) (v := (a1 + 2)) (by decide +kernel) rfl (TO.gk k_a1) (hL.fa (v := (a1 + 2)) 5 1 6 k_a1 rfl rfl rfl (by decide)).1) ?_
  refine RK.of (RN.blk (ops := [(54, .iconst 0), (55, .aload_n 0)]) (pc' := 56) (lv' := [(0, .inr (.inr t)), (1, .inr (.inr a1))]) (st' := [.inr (.inr t), .inl 0, .inr (.inr (a1 + 2))]) (h' := (m_cpy h2 (a1 + 1) 0 (t + 1) 0 5)) (cs := []) (by decide +kernel) rfl trivial) ?_
  refine RK.of (RN.gr (i := 15) (ci := 8) (k := 5) (fn := true) (v := (t + 2)) (by decide +kernel) rfl (TO.gk k_t) (hL.fa (v := (t + 2)) 5 1 6 k_t rfl rfl rfl (by decide)).1) ?_
  refine RK.of (RN.blk (ops := [(59, .iconst 0), (60, .aload_n 0)]) (pc' := 61) (lv' := [(0, .inr (.inr t)), (1, .inr (.inr a1))]) (st' := [.inr (.inr t), .inl 0, .inr (.inr (t + 2)), .inl 0, .inr (.inr (a1 + 2))]) (h' := (m_cpy h2 (a1 + 1) 0 (t + 1) 0 5)) (cs := []) (by decide +kernel) rfl trivial) ?_
  refine RK.of (RN.gr (i := 15) (ci := 8) (k := 5) (fn := true) (v := (t + 2)) (by decide +kernel) rfl (TO.gk k_t) (hL.fa (v := (t + 2)) 5 1 6 k_t rfl rfl rfl (by decide)).1) ?_
  refine RK.of (RN.al (by decide +kernel) (hL.fa 5 1 6 k_t rfl rfl rfl (by decide)).2 (by decide) (by decide)) ?_
  have hG : GC (m_cpy h2 (a1 + 1) 0 (t + 1) 0 5) (a1 + 2) 0 (t + 2) 0 6 := ((hL.fa 5 1 6 k_a1 rfl rfl rfl (by decide)).2.gc (hL.fa 5 1 6 k_t rfl rfl rfl (by decide)).2 (by decide) (by decide) (by decide) (by decide) (by decide))
  refine RK.of (RN.cp (i := 35) (by decide +kernel) rfl rfl hG) ?_
  have hL : LR (m_cpy (m_cpy h2 (a1 + 1) 0 (t + 1) 0 5) (a1 + 2) 0 (t + 2) 0 6) := hL.wc (by rw [hG.2.1]; decide)
  have k_a1 := (KD.cpy : KD (m_cpy h2 (a1 + 1) 0 (t + 1) 0 5) (m_cpy (m_cpy h2 (a1 + 1) 0 (t + 1) 0 5) (a1 + 2) 0 (t + 2) 0 6)).to k_a1
  have k_t := (KD.cpy : KD (m_cpy h2 (a1 + 1) 0 (t + 1) 0 5) (m_cpy (m_cpy h2 (a1 + 1) 0 (t + 1) 0 5) (a1 + 2) 0 (t + 2) 0 6)).to k_t
  have hK := hK.tr (KD.cpy : KD (m_cpy h2 (a1 + 1) 0 (t + 1) 0 5) (m_cpy (m_cpy h2 (a1 + 1) 0 (t + 1) 0 5) (a1 + 2) 0 (t + 2) 0 6))
  exact RK.vR (by decide +kernel) rfl hL hK hF
noncomputable def GX2_take (t : Int) (a1 : Int) (a2 : Int) (h : MH) : Option (MH) :=
  (bv (GX8_copyFrom (t + 1) a1 h) (fun h1 =>
   (bv (GX10_copyFrom (t + 4) a2 h1) (fun h2 =>
    (bv (GX10_copyFrom (t + 12) a2 h2) (fun h3 =>
     some (m_wr h3 t 5 0)))))))
theorem DX2_take {d : Nat} {t : Int} {a1 : Int} {a2 : Int} {h : MH} {r : MH} (hL : LR h) (k0_t : TO h t 2) (k0_a1 : TO h a1 8) (k0_a2 : TO h a2 10) (hF : GX2_take t a1 a2 h = some r) : RN xs L iX2_take (d + 3) 0 (lvE 0 [.inr (.inr t), .inr (.inr a1), .inr (.inr a2)]) [] h (RVo r) ∧ LR r ∧ KD h r := by
  unfold GX2_take at hF
  have hK : KD h h := KD.rf
  have k_t := k0_t
  have k_a1 := k0_a1
  have k_a2 := k0_a2
  show RK xs L iX2_take (d + 3) 0 (lvE 0 [.inr (.inr t), .inr (.inr a1), .inr (.inr a2)]) [] h (RVo r) h r
  refine RK.of (RN.blk (ops := [(0, .aload_n 0)]) (pc' := 1) (lv' := [(0, .inr (.inr t)), (1, .inr (.inr a1)), (2, .inr (.inr a2))]) (st' := [.inr (.inr t)]) (h' := h) (cs := []) (by decide +kernel) rfl trivial) ?_
  refine RK.of (RN.gr (i := 12) (ci := 2) (k := 0) (fn := true) (v := (t + 1)) (by decide +kernel) rfl (TO.gk k_t) (hL.fo (v := (t + 1)) 0 8 k_t rfl rfl rfl).1) ?_
  refine RK.of (RN.blk (ops := [(4, .aload_n 1)]) (pc' := 5) (lv' := [(0, .inr (.inr t)), (1, .inr (.inr a1)), (2, .inr (.inr a2))]) (st' := [.inr (.inr a1), .inr (.inr (t + 1))]) (h' := h) (cs := []) (by decide +kernel) rfl trivial) ?_
  obtain ⟨h1, hG, hF⟩ := bv_of hF
  have hq := rcv_ok (as := [.inr (.inr a1)]) (TO.gk (hL.fo 0 8 k_t rfl rfl rfl).2)
  obtain ⟨hN, hL, hQ⟩ := DX8_copyFrom (d := d + 1) hL (hL.fo 0 8 k_t rfl rfl rfl).2 k_a1 hG
  refine RK.of (RN.cv (i := 42) (k := 80) (q2 := iX8_copyFrom) (as := [.inr (.inr (t + 1)), .inr (.inr a1)]) (r := []) (v := none) (h1 := h1) (by decide +kernel) rfl rfl rfl rfl rfl hq hN) ?_
  have k_a1 := hQ.to k_a1
  have k_a2 := hQ.to k_a2
  have k_t := hQ.to k_t
  have hK := hK.tr hQ
  refine RK.of (RN.blk (ops := [(8, .aload_n 0)]) (pc' := 9) (lv' := [(0, .inr (.inr t)), (1, .inr (.inr a1)), (2, .inr (.inr a2))]) (st' := [.inr (.inr t)]) (h' := h1) (cs := []) (by decide +kernel) rfl trivial) ?_
  refine RK.of (RN.gr (i := 21) (ci := 2) (k := 1) (fn := true) (v := (t + 4)) (by decide +kernel) rfl (TO.gk k_t) (hL.fo (v := (t + 4)) 1 10 k_t rfl rfl rfl).1) ?_
  refine RK.of (RN.blk (ops := [(12, .aload_n 2)]) (pc' := 13) (lv' := [(0, .inr (.inr t)), (1, .inr (.inr a1)), (2, .inr (.inr a2))]) (st' := [.inr (.inr a2), .inr (.inr (t + 4))]) (h' := h1) (cs := []) (by decide +kernel) rfl trivial) ?_
  obtain ⟨h2, hG, hF⟩ := bv_of hF
  have hq := rcv_ok (as := [.inr (.inr a2)]) (TO.gk (hL.fo 1 10 k_t rfl rfl rfl).2)
  obtain ⟨hN, hL, hQ⟩ := DX10_copyFrom (d := d) hL (hL.fo 1 10 k_t rfl rfl rfl).2 k_a2 hG
  refine RK.of (RN.cv (i := 46) (k := 101) (q2 := iX10_copyFrom) (as := [.inr (.inr (t + 4)), .inr (.inr a2)]) (r := []) (v := none) (h1 := h2) (by decide +kernel) rfl rfl rfl rfl rfl hq hN) ?_
  have k_a1 := hQ.to k_a1
  have k_a2 := hQ.to k_a2
  have k_t := hQ.to k_t
  have hK := hK.tr hQ
  refine RK.of (RN.blk (ops := [(16, .aload_n 0)]) (pc' := 17) (lv' := [(0, .inr (.inr t)), (1, .inr (.inr a1)), (2, .inr (.inr a2))]) (st' := [.inr (.inr t)]) (h' := h2) (cs := []) (by decide +kernel) rfl trivial) ?_
  refine RK.of (RN.gr (i := 25) (ci := 2) (k := 2) (fn := true) (v := (t + 12)) (by decide +kernel) rfl (TO.gk k_t) (hL.fo (v := (t + 12)) 2 10 k_t rfl rfl rfl).1) ?_
  refine RK.of (RN.blk (ops := [(20, .aload_n 2)]) (pc' := 21) (lv' := [(0, .inr (.inr t)), (1, .inr (.inr a1)), (2, .inr (.inr a2))]) (st' := [.inr (.inr a2), .inr (.inr (t + 12))]) (h' := h2) (cs := []) (by decide +kernel) rfl trivial) ?_
  obtain ⟨h3, hG, hF⟩ := bv_of hF
  have hq := rcv_ok (as := [.inr (.inr a2)]) (TO.gk (hL.fo 2 10 k_t rfl rfl rfl).2)
  obtain ⟨hN, hL, hQ⟩ := DX10_copyFrom (d := d) hL (hL.fo 2 10 k_t rfl rfl rfl).2 k_a2 hG
  refine RK.of (RN.cv (i := 46) (k := 101) (q2 := iX10_copyFrom) (as := [.inr (.inr (t + 12)), .inr (.inr a2)]) (r := []) (v := none) (h1 := h3) (by decide +kernel) rfl rfl rfl rfl rfl hq hN) ?_
  have k_a1 := hQ.to k_a1
  have k_a2 := hQ.to k_a2
  have k_t := hQ.to k_t
  have hK := hK.tr hQ
  refine RK.of (RN.blk (ops := [(24, .aload_n 0), (25, .iconst 0), (26, .putfield 49)]) (pc' := 29) (lv' := [(0, .inr (.inr t)), (1, .inr (.inr a1)), (2, .inr (.inr a2))]) (st' := []) (h' := (m_wr h3 t 5 0)) (cs := [GK h3 t 2]) (by decide +kernel) rfl ⟨k_t.gk, trivial⟩) ?_
  have hL : LR (m_wr h3 t 5 0) := LR.wf (k := 5) hL k_t rfl
  have k_a1 := (KD.wr : KD h3 (m_wr h3 t 5 0)).to k_a1
  have k_a2 := (KD.wr : KD h3 (m_wr h3 t 5 0)).to k_a2
  have k_t := (KD.wr : KD h3 (m_wr h3 t 5 0)).to k_t
  have hK := hK.tr (KD.wr : KD h3 (m_wr h3 t 5 0))
  exact RK.vR (by decide +kernel) rfl hL hK hF
noncomputable def GX2_copyFrom (t : Int) (a1 : Int) (h : MH) : Option (MH) :=
  (bv (GX8_copyFrom (t + 1) (a1 + 1) h) (fun h1 =>
   (bv (GX10_copyFrom (t + 4) (a1 + 4) h1) (fun h2 =>
    (bv (GX10_copyFrom (t + 12) (a1 + 12) h2) (fun h3 =>
     hl (m_wr (m_wr h3 t 3 (m_rd h3 a1 3)) t 4 (m_rd (m_wr h3 t 3 (m_rd h3 a1 3)) a1 4)) (fun h4 =>
      hl (m_cpy (m_cpy (m_wr h4 t 5 (m_rd h4 a1 5)) (a1 + 20) 0 (t + 20) 0 10) (a1 + 21) 0 (t + 21) 0 10) (fun h5 =>
       some (m_cpy h5 (a1 + 22) 0 (t + 22) 0 10)))))))))
theorem DX2_copyFrom {d : Nat} {t : Int} {a1 : Int} {h : MH} {r : MH} (hL : LR h) (k0_t : TO h t 2) (k0_a1 : TO h a1 2) (hF : GX2_copyFrom t a1 h = some r) : RN xs L iX2_copyFrom (d + 3) 0 (lvE 0 [.inr (.inr t), .inr (.inr a1)]) [] h (RVo r) ∧ LR r ∧ KD h r := by
  unfold GX2_copyFrom at hF
  have hK : KD h h := KD.rf
  have k_t := k0_t
  have k_a1 := k0_a1
  show RK xs L iX2_copyFrom (d + 3) 0 (lvE 0 [.inr (.inr t), .inr (.inr a1)]) [] h (RVo r) h r
  refine RK.of (RN.blk (ops := [(0, .aload_n 0)]) (pc' := 1) (lv' := [(0, .inr (.inr t)), (1, .inr (.inr a1))]) (st' := [.inr (.inr t)]) (h' := h) (cs := []) (by decide +kernel) rfl trivial) ?_
  refine RK.of (RN.gr (i := 12) (ci := 2) (k := 0) (fn := true) (v := (t + 1)) (by decide +kernel) rfl (TO.gk k_t) (hL.fo (v := (t + 1)) 0 8 k_t rfl rfl rfl).1) ?_
  refine RK.of (RN.blk (ops := [(4, .aload_n 1)]) (pc' := 5) (lv' := [(0, .inr (.inr t)), (1, .inr (.inr a1))]) (st' := [.inr (.inr a1), .inr (.inr (t + 1))]) (h' := h) (cs := []) (by decide +kernel) rfl trivial) ?_
  refine RK.of (RN.gr (i := 12) (ci := 2) (k := 0) (fn := true) (v := (a1 + 1)) (by decide +kernel) rfl (TO.gk k_a1) (hL.fo (v := (a1 + 1)) 0 8 k_a1 rfl rfl rfl).1) ?_
  obtain ⟨h1, hG, hF⟩ := bv_of hF
  have hq := rcv_ok (as := [.inr (.inr (a1 + 1))]) (TO.gk (hL.fo 0 8 k_t rfl rfl rfl).2)
  obtain ⟨hN, hL, hQ⟩ := DX8_copyFrom (d := d + 1) hL (hL.fo 0 8 k_t rfl rfl rfl).2 (hL.fo 0 8 k_a1 rfl rfl rfl).2 hG
  refine RK.of (RN.cv (i := 42) (k := 80) (q2 := iX8_copyFrom) (as := [.inr (.inr (t + 1)), .inr (.inr (a1 + 1))]) (r := []) (v := none) (h1 := h1) (by decide +kernel) rfl rfl rfl rfl rfl hq hN) ?_
  have k_a1 := hQ.to k_a1
  have k_t := hQ.to k_t
  have hK := hK.tr hQ
  refine RK.of (RN.blk (ops := [(11, .aload_n 0)]) (pc' := 12) (lv' := [(0, .inr (.inr t)), (1, .inr (.inr a1))]) (st' := [.inr (.inr t)]) (h' := h1) (cs := []) (by decide +kernel) rfl trivial) ?_
  refine RK.of (RN.gr (i := 21) (ci := 2) (k := 1) (fn := true) (v := (t + 4)) (by decide +kernel) rfl (TO.gk k_t) (hL.fo (v := (t + 4)) 1 10 k_t rfl rfl rfl).1) ?_
  refine RK.of (RN.blk (ops := [(15, .aload_n 1)]) (pc' := 16) (lv' := [(0, .inr (.inr t)), (1, .inr (.inr a1))]) (st' := [.inr (.inr a1), .inr (.inr (t + 4))]) (h' := h1) (cs := []) (by decide +kernel) rfl trivial) ?_
  refine RK.of (RN.gr (i := 21) (ci := 2) (k := 1) (fn := true) (v := (a1 + 4)) (by decide +kernel) rfl (TO.gk k_a1) (hL.fo (v := (a1 + 4)) 1 10 k_a1 rfl rfl rfl).1) ?_
  obtain ⟨h2, hG, hF⟩ := bv_of hF
  have hq := rcv_ok (as := [.inr (.inr (a1 + 4))]) (TO.gk (hL.fo 1 10 k_t rfl rfl rfl).2)
  obtain ⟨hN, hL, hQ⟩ := DX10_copyFrom (d := d) hL (hL.fo 1 10 k_t rfl rfl rfl).2 (hL.fo 1 10 k_a1 rfl rfl rfl).2 hG
  refine RK.of (RN.cv (i := 46) (k := 101) (q2 := iX10_copyFrom) (as := [.inr (.inr (t + 4)), .inr (.inr (a1 + 4))]) (r := []) (v := none) (h1 := h2) (by decide +kernel) rfl rfl rfl rfl rfl hq hN) ?_
  have k_a1 := hQ.to k_a1
  have k_t := hQ.to k_t
  have hK := hK.tr hQ
  refine RK.of (RN.blk (ops := [(22, .aload_n 0)]) (pc' := 23) (lv' := [(0, .inr (.inr t)), (1, .inr (.inr a1))]) (st' := [.inr (.inr t)]) (h' := h2) (cs := []) (by decide +kernel) rfl trivial) ?_
  refine RK.of (RN.gr (i := 25) (ci := 2) (k := 2) (fn := true) (v := (t + 12)) (by decide +kernel) rfl (TO.gk k_t) (hL.fo (v := (t + 12)) 2 10 k_t rfl rfl rfl).1) ?_
  refine RK.of (RN.blk (ops := [(26, .aload_n 1)]) (pc' := 27) (lv' := [(0, .inr (.inr t)), (1, .inr (.inr a1))]) (st' := [.inr (.inr a1), .inr (.inr (t + 12))]) (h' := h2) (cs := []) (by decide +kernel) rfl trivial) ?_
  refine RK.of (RN.gr (i := 25) (ci := 2) (k := 2) (fn := true) (v := (a1 + 12)) (by decide +kernel) rfl (TO.gk k_a1) (hL.fo (v := (a1 + 12)) 2 10 k_a1 rfl rfl rfl).1) ?_
  obtain ⟨h3, hG, hF⟩ := bv_of hF
  have hq := rcv_ok (as := [.inr (.inr (a1 + 12))]) (TO.gk (hL.fo 2 10 k_t rfl rfl rfl).2)
  obtain ⟨hN, hL, hQ⟩ := DX10_copyFrom (d := d) hL (hL.fo 2 10 k_t rfl rfl rfl).2 (hL.fo 2 10 k_a1 rfl rfl rfl).2 hG
  refine RK.of (RN.cv (i := 46) (k := 101) (q2 := iX10_copyFrom) (as := [.inr (.inr (t + 12)), .inr (.inr (a1 + 12))]) (r := []) (v := none) (h1 := h3) (by decide +kernel) rfl rfl rfl rfl rfl hq hN) ?_
  have k_a1 := hQ.to k_a1
  have k_t := hQ.to k_t
  have hK := hK.tr hQ
  refine RK.of (RN.blk (ops := [(33, .aload_n 0), (34, .aload_n 1), (35, .getfield 28), (38, .putfield 28)]) (pc' := 41) (lv' := [(0, .inr (.inr t)), (1, .inr (.inr a1))]) (st' := []) (h' := (m_wr h3 t 3 (m_rd h3 a1 3))) (cs := [GK h3 a1 2, GK h3 t 2]) (by decide +kernel) rfl ⟨k_a1.gk, k_t.gk, trivial⟩) ?_
  have hL : LR (m_wr h3 t 3 (m_rd h3 a1 3)) := LR.wf (k := 3) hL k_t rfl
  have k_a1 := (KD.wr : KD h3 (m_wr h3 t 3 (m_rd h3 a1 3))).to k_a1
  have k_t := (KD.wr : KD h3 (m_wr h3 t 3 (m_rd h3 a1 3))).to k_t
  have hK := hK.tr (KD.wr : KD h3 (m_wr h3 t 3 (m_rd h3 a1 3)))
  refine RK.of (RN.blk (ops := [(41, .aload_n 0), (42, .aload_n 1), (43, .getfield 52), (46, .putfield 52)]) (pc' := 49) (lv' := [(0, .inr (.inr t)), (1, .inr (.inr a1))]) (st' := []) (h' := (m_wr (m_wr h3 t 3 (m_rd h3 a1 3)) t 4 (m_rd (m_wr h3 t 3 (m_rd h3 a1 3)) a1 4))) (cs := [GK (m_wr h3 t 3 (m_rd h3 a1 3)) a1 2, GK (m_wr h3 t 3 (m_rd h3 a1 3)) t 2]) (by decide +kernel) rfl ⟨k_a1.gk, k_t.gk, trivial⟩) ?_
  have hL : LR (m_wr (m_wr h3 t 3 (m_rd h3 a1 3)) t 4 (m_rd (m_wr h3 t 3 (m_rd h3 a1 3)) a1 4)) := LR.wf (k := 4) hL k_t rfl
  have k_a1 := (KD.wr : KD (m_wr h3 t 3 (m_rd h3 a1 3)) (m_wr (m_wr h3 t 3 (m_rd h3 a1 3)) t 4 (m_rd (m_wr h3 t 3 (m_rd h3 a1 3)) a1 4))).to k_a1
  have k_t := (KD.wr : KD (m_wr h3 t 3 (m_rd h3 a1 3)) (m_wr (m_wr h3 t 3 (m_rd h3 a1 3)) t 4 (m_rd (m_wr h3 t 3 (m_rd h3 a1 3)) a1 4))).to k_t
  have hK := hK.tr (KD.wr : KD (m_wr h3 t 3 (m_rd h3 a1 3)) (m_wr (m_wr h3 t 3 (m_rd h3 a1 3)) t 4 (m_rd (m_wr h3 t 3 (m_rd h3 a1 3)) a1 4)))
  obtain ⟨h4, he, hF⟩ := hl_of hF
  refine RK.of (RN.hl he) ?_
  rw [← he] at hL hK k_a1 k_t
  refine RK.of (RN.blk (ops := [(49, .aload_n 0), (50, .aload_n 1), (51, .getfield 49), (54, .putfield 49)]) (pc' := 57) (lv' := [(0, .inr (.inr t)), (1, .inr (.inr a1))]) (st' := []) (h' := (m_wr h4 t 5 (m_rd h4 a1 5))) (cs := [GK h4 a1 2, GK h4 t 2]) (by decide +kernel) rfl ⟨k_a1.gk, k_t.gk, trivial⟩) ?_
  have hL : LR (m_wr h4 t 5 (m_rd h4 a1 5)) := LR.wf (k := 5) hL k_t rfl
  have k_a1 := (KD.wr : KD h4 (m_wr h4 t 5 (m_rd h4 a1 5))).to k_a1
  have k_t := (KD.wr : KD h4 (m_wr h4 t 5 (m_rd h4 a1 5))).to k_t
  have hK := hK.tr (KD.wr : KD h4 (m_wr h4 t 5 (m_rd h4 a1 5)))
  refine RK.of (RN.blk (ops := [(57, .aload_n 1)]) (pc' := 58) (lv' := [(0, .inr (.inr t)), (1, .inr (.inr a1))]) (st' := [.inr (.inr a1)]) (h' := (m_wr h4 t 5 (m_rd h4 a1 5))) (cs := []) (by decide +kernel) rfl trivial) ?_
  refine RK.of (RN.gr (i := 32) (ci := 2) (k := 6) (fn := true) (v := (a1 + 20)) (by decide +kernel) rfl (TO.gk k_a1) (hL.fa (v := (a1 + 20)) 6 1 10 k_a1 rfl rfl rfl (by decide)).1) ?_
  refine RK.of (RN.blk (ops := [(61, .iconst 0), (62, .aload_n 0)]) (pc' := 63) (lv' := [(0, .inr (.inr t)), (1, .inr (.inr a1))]) (st' := [.inr (.inr t), .inl 0, .inr (.inr (a1 + 20))]) (h' := (m_wr h4 t 5 (m_rd h4 a1 5))) (cs := []) (by decide +kernel) rfl trivial) ?_
  refine RK.of (RN.gr (i := 32) (ci := 2) (k := 6) (fn := true) (v := (t + 20)) (by decide +kernel) rfl (TO.gk k_t) (hL.fa (v := (t + 20)) 6 1 10 k_t rfl rfl rfl (by decide)).1) ?_
  refine RK.of (RN.blk (ops := [(66, .iconst 0), (67, .bipush 10)]) (pc' := 69) (lv' := [(0, .inr (.inr t)), (1, .inr (.inr a1))]) (st' := [.inl 10, .inl 0, .inr (.inr (t + 20)), .inl 0, .inr (.inr (a1 + 20))]) (h' := (m_wr h4 t 5 (m_rd h4 a1 5))) (cs := []) (by decide +kernel) rfl trivial) ?_
  have hG : GC (m_wr h4 t 5 (m_rd h4 a1 5)) (a1 + 20) 0 (t + 20) 0 10 := ((hL.fa 6 1 10 k_a1 rfl rfl rfl (by decide)).2.gc (hL.fa 6 1 10 k_t rfl rfl rfl (by decide)).2 (by decide) (by decide) (by decide) (by decide) (by decide))
  refine RK.of (RN.cp (i := 55) (by decide +kernel) rfl rfl hG) ?_
  have hL : LR (m_cpy (m_wr h4 t 5 (m_rd h4 a1 5)) (a1 + 20) 0 (t + 20) 0 10) := hL.wc (by rw [hG.2.1]; decide)
  have k_a1 := (KD.cpy : KD (m_wr h4 t 5 (m_rd h4 a1 5)) (m_cpy (m_wr h4 t 5 (m_rd h4 a1 5)) (a1 + 20) 0 (t + 20) 0 10)).to k_a1
  have k_t := (KD.cpy : KD (m_wr h4 t 5 (m_rd h4 a1 5)) (m_cpy (m_wr h4 t 5 (m_rd h4 a1 5)) (a1 + 20) 0 (t + 20) 0 10)).to k_t
  have hK := hK.tr (KD.cpy : KD (m_wr h4 t 5 (m_rd h4 a1 5)) (m_cpy (m_wr h4 t 5 (m_rd h4 a1 5)) (a1 + 20) 0 (t + 20) 0 10))
  refine RK.of (RN.blk (ops := [(72, .aload_n 1)]) (pc' := 73) (lv' := [(0, .inr (.inr t)), (1, .inr (.inr a1))]) (st' := [.inr (.inr a1)]) (h' := (m_cpy (m_wr h4 t 5 (m_rd h4 a1 5)) (a1 + 20) 0 (t + 20) 0 10)) (cs := []) (by decide +kernel) rfl trivial) ?_
  refine RK.of (RN.gr (i := 36) (ci := 2) (k := 7) (fn := true) (v := (a1 + 21)) (by decide +kernel) rfl (TO.gk k_a1) (hL.fa (v := (a1 + 21)) 7 1 10 k_a1 rfl rfl rfl (by decide)).1) ?_
  refine RK.of (RN.blk (ops := [(76, .iconst 0), (77, .aload_n 0)]) (pc' := 78) (lv' := [(0, .inr (.inr t)), (1, .inr (.inr a1))]) (st' := [.inr (.inr t), .inl 0, .inr (.inr (a1 + 21))]) (h' := (m_cpy (m_wr h4 t 5 (m_rd h4 a1 5)) (a1 + 20) 0 (t + 20) 0 10)) (cs := []) (by decide +kernel) rfl trivial) ?_
  refine RK.of (RN.gr (i := 36) (ci := 2) (k := 7) (fn := true) (v := (t + 21)) (by decide +kernel) rfl (TO.gk k_t) (hL.fa (v := (t + 21)) 7 1 10 k_t rfl rfl rfl (by decide)).1) ?_
  refine RK.of (RN.blk (ops := [(81, .iconst 0), (82, .bipush 10)]) (pc' := 84) (lv' := [(0, .inr (.inr t)), (1, .inr (.inr a1))]) (st' := [.inl 10, .inl 0, .inr (.inr (t + 21)), .inl 0, .inr (.inr (a1 + 21))]) (h' := (m_cpy (m_wr h4 t 5 (m_rd h4 a1 5)) (a1 + 20) 0 (t + 20) 0 10)) (cs := []) (by decide +kernel) rfl trivial) ?_
  have hG : GC (m_cpy (m_wr h4 t 5 (m_rd h4 a1 5)) (a1 + 20) 0 (t + 20) 0 10) (a1 + 21) 0 (t + 21) 0 10 := ((hL.fa 7 1 10 k_a1 rfl rfl rfl (by decide)).2.gc (hL.fa 7 1 10 k_t rfl rfl rfl (by decide)).2 (by decide) (by decide) (by decide) (by decide) (by decide))
  refine RK.of (RN.cp (i := 55) (by decide +kernel) rfl rfl hG) ?_
  have hL : LR (m_cpy (m_cpy (m_wr h4 t 5 (m_rd h4 a1 5)) (a1 + 20) 0 (t + 20) 0 10) (a1 + 21) 0 (t + 21) 0 10) := hL.wc (by rw [hG.2.1]; decide)
  have k_a1 := (KD.cpy : KD (m_cpy (m_wr h4 t 5 (m_rd h4 a1 5)) (a1 + 20) 0 (t + 20) 0 10) (m_cpy (m_cpy (m_wr h4 t 5 (m_rd h4 a1 5)) (a1 + 20) 0 (t + 20) 0 10) (a1 + 21) 0 (t + 21) 0 10)).to k_a1
  have k_t := (KD.cpy : KD (m_cpy (m_wr h4 t 5 (m_rd h4 a1 5)) (a1 + 20) 0 (t + 20) 0 10) (m_cpy (m_cpy (m_wr h4 t 5 (m_rd h4 a1 5)) (a1 + 20) 0 (t + 20) 0 10) (a1 + 21) 0 (t + 21) 0 10)).to k_t
  have hK := hK.tr (KD.cpy : KD (m_cpy (m_wr h4 t 5 (m_rd h4 a1 5)) (a1 + 20) 0 (t + 20) 0 10) (m_cpy (m_cpy (m_wr h4 t 5 (m_rd h4 a1 5)) (a1 + 20) 0 (t + 20) 0 10) (a1 + 21) 0 (t + 21) 0 10))
  obtain ⟨h5, he, hF⟩ := hl_of hF
  refine RK.of (RN.hl he) ?_
  rw [← he] at hL hK k_a1 k_t
  refine RK.of (RN.blk (ops := [(87, .aload_n 1)]) (pc' := 88) (lv' := [(0, .inr (.inr t)), (1, .inr (.inr a1))]) (st' := [.inr (.inr a1)]) (h' := h5) (cs := []) (by decide +kernel) rfl trivial) ?_
  refine RK.of (RN.gr (i := 39) (ci := 2) (k := 8) (fn := true) (v := (a1 + 22)) (by decide +kernel) rfl (TO.gk k_a1) (hL.fa (v := (a1 + 22)) 8 1 10 k_a1 rfl rfl rfl (by decide)).1) ?_
  refine RK.of (RN.blk (ops := [(91, .iconst 0), (92, .aload_n 0)]) (pc' := 93) (lv' := [(0, .inr (.inr t)), (1, .inr (.inr a1))]) (st' := [.inr (.inr t), .inl 0, .inr (.inr (a1 + 22))]) (h' := h5) (cs := []) (by decide +kernel) rfl trivial) ?_
  refine RK.of (RN.gr (i := 39) (ci := 2) (k := 8) (fn := true) (v := (t + 22)) (by decide +kernel) rfl (TO.gk k_t) (hL.fa (v := (t + 22)) 8 1 10 k_t rfl rfl rfl (by decide)).1) ?_
  refine RK.of (RN.blk (ops := [(96, .iconst 0), (97, .bipush 10)]) (pc' := 99) (lv' := [(0, .inr (.inr t)), (1, .inr (.inr a1))]) (st' := [.inl 10, .inl 0, .inr (.inr (t + 22)), .inl 0, .inr (.inr (a1 + 22))]) (h' := h5) (cs := []) (by decide +kernel) rfl trivial) ?_
  have hG : GC h5 (a1 + 22) 0 (t + 22) 0 10 := ((hL.fa 8 1 10 k_a1 rfl rfl rfl (by decide)).2.gc (hL.fa 8 1 10 k_t rfl rfl rfl (by decide)).2 (by decide) (by decide) (by decide) (by decide) (by decide))
  refine RK.of (RN.cp (i := 55) (by decide +kernel) rfl rfl hG) ?_
  have hL : LR (m_cpy h5 (a1 + 22) 0 (t + 22) 0 10) := hL.wc (by rw [hG.2.1]; decide)
  have k_a1 := (KD.cpy : KD h5 (m_cpy h5 (a1 + 22) 0 (t + 22) 0 10)).to k_a1
  have k_t := (KD.cpy : KD h5 (m_cpy h5 (a1 + 22) 0 (t + 22) 0 10)).to k_t
  have hK := hK.tr (KD.cpy : KD h5 (m_cpy h5 (a1 + 22) 0 (t + 22) 0 10))
  exact RK.vR (by decide +kernel) rfl hL hK hF
noncomputable def GX2_addNote (t : Int) (a1 : Int) (a2 : Int) (a3 : Int) (h : MH) : Option (MH) :=
  (if (m_rd h t 5) < 10 then
   gd [IB (m_rd h t 5) 10] (
    gd [IB (m_rd (m_wr h (t + 20) (m_rd h t 5) a1) t 5) 10] (
     hl (m_wr (m_wr h (t + 20) (m_rd h t 5) a1) (t + 21) (m_rd (m_wr h (t + 20) (m_rd h t 5) a1) t 5) a2) (fun h1 =>
      gd [IB (m_rd h1 t 5) 10] (
       some (m_wr (m_wr h1 (t + 22) (m_rd h1 t 5) a3) t 5 (m_w32 ((m_rd (m_wr h1 (t + 22) (m_rd h1 t 5) a3) t 5) + 1)))))))
  else
   some h)
theorem DX2_addNote {d : Nat} {t : Int} {a1 : Int} {a2 : Int} {a3 : Int} {h : MH} {r : MH} (hL : LR h) (k0_t : TO h t 2) (hF : GX2_addNote t a1 a2 a3 h = some r) : RN xs L iX2_addNote (d) 0 (lvE 0 [.inr (.inr t), .inl a1, .inl a2, .inl a3]) [] h (RVo r) ∧ LR r ∧ KD h r := by
  unfold GX2_addNote at hF
  have hK : KD h h := KD.rf
  have k_t := k0_t
  show RK xs L iX2_addNote (d) 0 (lvE 0 [.inr (.inr t), .inl a1, .inl a2, .inl a3]) [] h (RVo r) h r
  refine RK.of (RN.blk (ops := [(0, .aload_n 0), (1, .getfield 49), (4, .bipush 10)]) (pc' := 6) (lv' := [(0, .inr (.inr t)), (1, .inl a1), (2, .inl a2), (3, .inl a3)]) (st' := [.inl 10, .inl (m_rd h t 5)]) (h' := h) (cs := [GK h t 2]) (by decide +kernel) rfl ⟨k_t.gk, trivial⟩) ?_
  rcases it_of hF with ⟨hb, hF⟩ | ⟨hb, hF⟩
  · refine RK.of (RN.icf (cd := .ge) (off := 43) (tgt := 49) (by decide +kernel) (mif_gen hb)) ?_
    refine RK.of (RN.blk (ops := [(9, .aload_n 0)]) (pc' := 10) (lv' := [(0, .inr (.inr t)), (1, .inl a1), (2, .inl a2), (3, .inl a3)]) (st' := [.inr (.inr t)]) (h' := h) (cs := []) (by decide +kernel) rfl trivial) ?_
    refine RK.of (RN.gr (i := 32) (ci := 2) (k := 6) (fn := true) (v := (t + 20)) (by decide +kernel) rfl (TO.gk k_t) (hL.fa (v := (t + 20)) 6 1 10 k_t rfl rfl rfl (by decide)).1) ?_
    obtain ⟨hc, hF⟩ := gd_of hF
    refine RK.of (RN.blk (ops := [(13, .aload_n 0), (14, .getfield 49), (17, .iload_n 1), (18, .iastore)]) (pc' := 19) (lv' := [(0, .inr (.inr t)), (1, .inl a1), (2, .inl a2), (3, .inl a3)]) (st' := []) (h' := (m_wr h (t + 20) (m_rd h t 5) a1)) (cs := [GK h t 2, GI h (t + 20) 1 (m_rd h t 5)]) (by decide +kernel) rfl ⟨k_t.gk, (hL.fa 6 1 10 k_t rfl rfl rfl (by decide)).2.gi hc.1.1 hc.1.2, trivial⟩) ?_
    have hL : LR (m_wr h (t + 20) (m_rd h t 5) a1) := hL.wa (TA.le5 (hL.fa 6 1 10 k_t rfl rfl rfl (by decide)).2 (by decide))
    have k_t := (KD.wr : KD h (m_wr h (t + 20) (m_rd h t 5) a1)).to k_t
    have hK := hK.tr (KD.wr : KD h (m_wr h (t + 20) (m_rd h t 5) a1))
    refine RK.of (RN.blk (ops := [(19, .aload_n 0)]) (pc' := 20) (lv' := [(0, .inr (.inr t)), (1, .inl a1), (2, .inl a2), (3, .inl a3)]) (st' := [.inr (.inr t)]) (h' := (m_wr h (t + 20) (m_rd h t 5) a1)) (cs := []) (by decide +kernel) rfl trivial) ?_
    refine RK.of (RN.gr (i := 36) (ci := 2) (k := 7) (fn := true) (v := (t + 21)) (by decide +kernel) rfl (TO.gk k_t) (hL.fa (v := (t + 21)) 7 1 10 k_t rfl rfl rfl (by decide)).1) ?_
    obtain ⟨hc, hF⟩ := gd_of hF
    refine RK.of (RN.blk (ops := [(23, .aload_n 0), (24, .getfield 49), (27, .iload_n 2), (28, .iastore)]) (pc' := 29) (lv' := [(0, .inr (.inr t)), (1, .inl a1), (2, .inl a2), (3, .inl a3)]) (st' := []) (h' := (m_wr (m_wr h (t + 20) (m_rd h t 5) a1) (t + 21) (m_rd (m_wr h (t + 20) (m_rd h t 5) a1) t 5) a2)) (cs := [GK (m_wr h (t + 20) (m_rd h t 5) a1) t 2, GI (m_wr h (t + 20) (m_rd h t 5) a1) (t + 21) 1 (m_rd (m_wr h (t + 20) (m_rd h t 5) a1) t 5)]) (by decide +kernel) rfl ⟨k_t.gk, (hL.fa 7 1 10 k_t rfl rfl rfl (by decide)).2.gi hc.1.1 hc.1.2, trivial⟩) ?_
    have hL : LR (m_wr (m_wr h (t + 20) (m_rd h t 5) a1) (t + 21) (m_rd (m_wr h (t + 20) (m_rd h t 5) a1) t 5) a2) := hL.wa (TA.le5 (hL.fa 7 1 10 k_t rfl rfl rfl (by decide)).2 (by decide))
    have k_t := (KD.wr : KD (m_wr h (t + 20) (m_rd h t 5) a1) (m_wr (m_wr h (t + 20) (m_rd h t 5) a1) (t + 21) (m_rd (m_wr h (t + 20) (m_rd h t 5) a1) t 5) a2)).to k_t
    have hK := hK.tr (KD.wr : KD (m_wr h (t + 20) (m_rd h t 5) a1) (m_wr (m_wr h (t + 20) (m_rd h t 5) a1) (t + 21) (m_rd (m_wr h (t + 20) (m_rd h t 5) a1) t 5) a2))
    obtain ⟨h1, he, hF⟩ := hl_of hF
    refine RK.of (RN.hl he) ?_
    rw [← he] at hL hK k_t
    refine RK.of (RN.blk (ops := [(29, .aload_n 0)]) (pc' := 30) (lv' := [(0, .inr (.inr t)), (1, .inl a1), (2, .inl a2), (3, .inl a3)]) (st' := [.inr (.inr t)]) (h' := h1) (cs := []) (by decide +kernel) rfl trivial) ?_
    refine RK.of (RN.gr (i := 39) (ci := 2) (k := 8) (fn := true) (v := (t + 22)) (by decide +kernel) rfl (TO.gk k_t) (hL.fa (v := (t + 22)) 8 1 10 k_t rfl rfl rfl (by decide)).1) ?_
    obtain ⟨hc, hF⟩ := gd_of hF
    refine RK.of (RN.blk (ops := [(33, .aload_n 0), (34, .getfield 49), (37, .iload_n 3), (38, .iastore)]) (pc' := 39) (lv' := [(0, .inr (.inr t)), (1, .inl a1), (2, .inl a2), (3, .inl a3)]) (st' := []) (h' := (m_wr h1 (t + 22) (m_rd h1 t 5) a3)) (cs := [GK h1 t 2, GI h1 (t + 22) 1 (m_rd h1 t 5)]) (by decide +kernel) rfl ⟨k_t.gk, (hL.fa 8 1 10 k_t rfl rfl rfl (by decide)).2.gi hc.1.1 hc.1.2, trivial⟩) ?_
    have hL : LR (m_wr h1 (t + 22) (m_rd h1 t 5) a3) := hL.wa (TA.le5 (hL.fa 8 1 10 k_t rfl rfl rfl (by decide)).2 (by decide))
    have k_t := (KD.wr : KD h1 (m_wr h1 (t + 22) (m_rd h1 t 5) a3)).to k_t
    have hK := hK.tr (KD.wr : KD h1 (m_wr h1 (t + 22) (m_rd h1 t 5) a3))
    refine RK.of (RN.blk (ops := [(39, .aload_n 0), (40, .dup), (41, .getfield 49), (44, .iconst 1), (45, .iadd), (46, .putfield 49)]) (pc' := 49) (lv' := [(0, .inr (.inr t)), (1, .inl a1), (2, .inl a2), (3, .inl a3)]) (st' := []) (h' := (m_wr (m_wr h1 (t + 22) (m_rd h1 t 5) a3) t 5 (m_w32 ((m_rd (m_wr h1 (t + 22) (m_rd h1 t 5) a3) t 5) + 1)))) (cs := [GK (m_wr h1 (t + 22) (m_rd h1 t 5) a3) t 2, GK (m_wr h1 (t + 22) (m_rd h1 t 5) a3) t 2]) (by decide +kernel) rfl ⟨k_t.gk, k_t.gk, trivial⟩) ?_
    have hL : LR (m_wr (m_wr h1 (t + 22) (m_rd h1 t 5) a3) t 5 (m_w32 ((m_rd (m_wr h1 (t + 22) (m_rd h1 t 5) a3) t 5) + 1))) := LR.wf (k := 5) hL k_t rfl
    have k_t := (KD.wr : KD (m_wr h1 (t + 22) (m_rd h1 t 5) a3) (m_wr (m_wr h1 (t + 22) (m_rd h1 t 5) a3) t 5 (m_w32 ((m_rd (m_wr h1 (t + 22) (m_rd h1 t 5) a3) t 5) + 1)))).to k_t
    have hK := hK.tr (KD.wr : KD (m_wr h1 (t + 22) (m_rd h1 t 5) a3) (m_wr (m_wr h1 (t + 22) (m_rd h1 t 5) a3) t 5 (m_w32 ((m_rd (m_wr h1 (t + 22) (m_rd h1 t 5) a3) t 5) + 1))))
    exact RK.vR (by decide +kernel) rfl hL hK hF
  · refine RK.of (RN.ict (cd := .ge) (off := 43) (tgt := 49) (by decide +kernel) (mif_ge hb)) ?_
    exact RK.vR (by decide +kernel) rfl hL hK hF
noncomputable def GX2_lastNotedTurn_L4 (u0 : Int) (K0 : Int → MH → Option (Int × MH)) : Nat → Int → Int → MH → Option (Int × MH)
  | 0, _, _, _ => none
  | f + 1, v1, v2, h =>
    (if v2 < (m_rd h u0 5) then
     gd [IB v2 10] (
      GX2_lastNotedTurn_L4 u0 K0 f (m_mx v1 (m_rd h (u0 + 20) v2)) (m_w32 (v2 + 1)) h)
    else
     K0 v1 h)
theorem DX2_lastNotedTurn_L4 {d : Nat} {u0 : Int} {K0 : Int → MH → Option (Int × MH)} {r : Int × MH} {h0 hB : MH} (hB0 : KD h0 hB) (k0_u0 : TO hB u0 2) (hK0 : ∀ (w1 : Int) (h : MH), LR h → KD hB h → K0 w1 h = some r → RK xs L iX2_lastNotedTurn (d + 1) 29 [(1, .inl w1)] [] h (RIo r) h0 r.2) : ∀ (f : Nat) (v1 : Int) (v2 : Int) (h : MH), LR h → KD hB h → GX2_lastNotedTurn_L4 u0 K0 f v1 v2 h = some r → RK xs L iX2_lastNotedTurn (d + 1) 4 [(0, .inr (.inr u0)), (1, .inl v1), (2, .inl v2)] [] h (RIo r) h0 r.2 := by
  intro f
  induction f with
  | zero =>
    intro v1 v2 h hL hJ hF
    cases hF
  | succ f ih =>
    intro v1 v2 h hL hJ hF
    unfold GX2_lastNotedTurn_L4 at hF
    have hK := hB0.tr hJ
    have k_u0 := hJ.to k0_u0
    refine RK.of (RN.blk (ops := [(4, .iload_n 2), (5, .aload_n 0), (6, .getfield 49)]) (pc' := 9) (lv' := [(0, .inr (.inr u0)), (1, .inl v1), (2, .inl v2)]) (st' := [.inl (m_rd h u0 5), .inl v2]) (h' := h) (cs := [GK h u0 2]) (by decide +kernel) rfl ⟨k_u0.gk, trivial⟩) ?_
    rcases it_of hF with ⟨hb, hF⟩ | ⟨hb, hF⟩
    · refine RK.of (RN.icf (cd := .ge) (off := 20) (tgt := 29) (by decide +kernel) (mif_gen hb)) ?_
      refine RK.of (RN.blk (ops := [(12, .iload_n 1), (13, .aload_n 0)]) (pc' := 14) (lv' := [(0, .inr (.inr u0)), (1, .inl v1), (2, .inl v2)]) (st' := [.inr (.inr u0), .inl v1]) (h' := h) (cs := []) (by decide +kernel) rfl trivial) ?_
      refine RK.of (RN.gr (i := 32) (ci := 2) (k := 6) (fn := true) (v := (u0 + 20)) (by decide +kernel) rfl (TO.gk k_u0) (hL.fa (v := (u0 + 20)) 6 1 10 k_u0 rfl rfl rfl (by decide)).1) ?_
      obtain ⟨hc, hF⟩ := gd_of hF
      refine RK.of (RN.blk (ops := [(17, .iload_n 2), (18, .iaload)]) (pc' := 19) (lv' := [(0, .inr (.inr u0)), (1, .inl v1), (2, .inl v2)]) (st' := [.inl (m_rd h (u0 + 20) v2), .inl v1]) (h' := h) (cs := [GI h (u0 + 20) 1 v2]) (by decide +kernel) rfl ⟨(hL.fa 6 1 10 k_u0 rfl rfl rfl (by decide)).2.gi hc.1.1 hc.1.2, trivial⟩) ?_
      refine RK.of (RN.mx (i := 61) (by decide +kernel) rfl rfl) ?_
      refine RK.of (RN.blk (ops := [(22, .istore_n 1), (23, .iinc 2 1)]) (pc' := 26) (lv' := [(2, .inl (m_w32 (v2 + 1))), (1, .inl (m_mx v1 (m_rd h (u0 + 20) v2))), (0, .inr (.inr u0))]) (st' := []) (h' := h) (cs := []) (by decide +kernel) rfl trivial) ?_
      refine RK.of (RN.goto (off := -22) (tgt := 4) (by decide +kernel)) ?_
      exact RK.sub (ih _ _ _ hL hJ hF) (sub_cons rfl (sub_cons rfl (sub_cons rfl sub_nil)))
    · refine RK.of (RN.ict (cd := .ge) (off := 20) (tgt := 29) (by decide +kernel) (mif_ge hb)) ?_
      exact RK.sub (hK0 _ _ hL hJ hF) (sub_cons rfl sub_nil)
noncomputable def GX2_lastNotedTurn (t : Int) (h : MH) : Option (Int × MH) :=
  GX2_lastNotedTurn_L4 t (fun w1 h2 =>
   some (w1, h2)) FU (-1) 0 h
theorem DX2_lastNotedTurn {d : Nat} {t : Int} {h : MH} {r : Int × MH} (hL : LR h) (k0_t : TO h t 2) (hF : GX2_lastNotedTurn t h = some r) : RN xs L iX2_lastNotedTurn (d + 1) 0 (lvE 0 [.inr (.inr t)]) [] h (RIo r) ∧ LR r.2 ∧ KD h r.2 := by
  unfold GX2_lastNotedTurn at hF
  have hK : KD h h := KD.rf
  have k_t := k0_t
  show RK xs L iX2_lastNotedTurn (d + 1) 0 (lvE 0 [.inr (.inr t)]) [] h (RIo r) h r.2
  refine RK.of (RN.blk (ops := [(0, .iconst (-1)), (1, .istore_n 1), (2, .iconst 0), (3, .istore_n 2)]) (pc' := 4) (lv' := [(2, .inl 0), (1, .inl (-1)), (0, .inr (.inr t))]) (st' := []) (h' := h) (cs := []) (by decide +kernel) rfl trivial) ?_
  refine RK.sub (DX2_lastNotedTurn_L4 hK k_t ?_ _ _ _ _ hL KD.rf hF) (sub_cons rfl (sub_cons rfl (sub_cons rfl sub_nil)))
  · intro w1 h2 hL hq hF
    have k_t := hq.to k_t
    have hK := hK.tr hq
    refine RK.of (RN.blk (ops := [(29, .iload_n 1)]) (pc' := 30) (lv' := [(1, .inl w1)]) (st' := [.inl w1]) (h' := h2) (cs := []) (by decide +kernel) rfl trivial) ?_
    exact RK.iR (by decide +kernel) rfl hL hK hF
noncomputable def GX2_notesHold_L3 (u0 : Int) (u1 : Int) (u2 : Int) (u3 : Int) (K0 : MH → Option (Int × MH)) (K1 : MH → Option (Int × MH)) : Nat → Int → MH → Option (Int × MH)
  | 0, _, _ => none
  | f + 1, v4, h =>
    (if v4 < (m_rd h u0 5) then
     gd [IB v4 10] (
      jn (fun (s2 : Int) =>
       (if s2 = 0 then
        GX2_notesHold_L3 u0 u1 u2 u3 K0 K1 f (m_w32 (v4 + 1)) h
       else
        gd [IB v4 10, GI h u3 1 (m_rd h (u0 + 21) v4)] (
         gd [IB v4 10] (
          (if (m_rd h u3 (m_rd h (u0 + 21) v4)) = (m_rd h (u0 + 22) v4) then
           GX2_notesHold_L3 u0 u1 u2 u3 K0 K1 f (m_w32 (v4 + 1)) h
          else
           K0 h))))) (fun j1 =>
       jn (
        j1 0) (fun j3 =>
        (if (m_rd h (u0 + 20) v4) < u1 then
         j3
        else
         gd [IB v4 10] (
          (if u2 < (m_rd h (u0 + 20) v4) then
           j3
          else
           j1 1))))))
    else
     K1 h)
theorem DX2_notesHold_L3 {d : Nat} {u0 : Int} {u1 : Int} {u2 : Int} {u3 : Int} {K0 : MH → Option (Int × MH)} {K1 : MH → Option (Int × MH)} {r : Int × MH} {h0 hB : MH} (hB0 : KD h0 hB) (k0_u0 : TO hB u0 2) (hK0 : ∀ (h : MH), LR h → KD hB h → K0 h = some r → RK xs L iX2_notesHold (d) 65 [] [] h (RIo r) h0 r.2) (hK1 : ∀ (h : MH), LR h → KD hB h → K1 h = some r → RK xs L iX2_notesHold (d) 73 [] [] h (RIo r) h0 r.2) : ∀ (f : Nat) (v4 : Int) (h : MH), LR h → KD hB h → GX2_notesHold_L3 u0 u1 u2 u3 K0 K1 f v4 h = some r → RK xs L iX2_notesHold (d) 3 [(0, .inr (.inr u0)), (1, .inl u1), (2, .inl u2), (3, .inr (.inr u3)), (4, .inl v4)] [] h (RIo r) h0 r.2 := by
  intro f
  induction f with
  | zero =>
    intro v4 h hL hJ hF
    cases hF
  | succ f ih =>
    intro v4 h hL hJ hF
    unfold GX2_notesHold_L3 at hF
    have hK := hB0.tr hJ
    have k_u0 := hJ.to k0_u0
    refine RK.of (RN.blk (ops := [(3, .iload 4), (5, .aload_n 0), (6, .getfield 49)]) (pc' := 9) (lv' := [(0, .inr (.inr u0)), (1, .inl u1), (2, .inl u2), (3, .inr (.inr u3)), (4, .inl v4)]) (st' := [.inl (m_rd h u0 5), .inl v4]) (h' := h) (cs := [GK h u0 2]) (by decide +kernel) rfl ⟨k_u0.gk, trivial⟩) ?_
    rcases it_of hF with ⟨hb, hF⟩ | ⟨hb, hF⟩
    · refine RK.of (RN.icf (cd := .ge) (off := 64) (tgt := 73) (by decide +kernel) (mif_gen hb)) ?_
      refine RK.of (RN.blk (ops := [(12, .aload_n 0)]) (pc' := 13) (lv' := [(0, .inr (.inr u0)), (1, .inl u1), (2, .inl u2), (3, .inr (.inr u3)), (4, .inl v4)]) (st' := [.inr (.inr u0)]) (h' := h) (cs := []) (by decide +kernel) rfl trivial) ?_
      refine RK.of (RN.gr (i := 32) (ci := 2) (k := 6) (fn := true) (v := (u0 + 20)) (by decide +kernel) rfl (TO.gk k_u0) (hL.fa (v := (u0 + 20)) 6 1 10 k_u0 rfl rfl rfl (by decide)).1) ?_
      obtain ⟨hc, hF⟩ := gd_of hF
      refine RK.of (RN.blk (ops := [(16, .iload 4), (18, .iaload), (19, .iload_n 1)]) (pc' := 20) (lv' := [(0, .inr (.inr u0)), (1, .inl u1), (2, .inl u2), (3, .inr (.inr u3)), (4, .inl v4)]) (st' := [.inl u1, .inl (m_rd h (u0 + 20) v4)]) (h' := h) (cs := [GI h (u0 + 20) 1 v4]) (by decide +kernel) rfl ⟨(hL.fa 6 1 10 k_u0 rfl rfl rfl (by decide)).2.gi hc.1.1 hc.1.2, trivial⟩) ?_
      refine jn_use (fun j1 => ∀ (s2 : Int), j1 s2 = some r → RK xs L iX2_notesHold (d) 39 [(0, .inr (.inr u0)), (1, .inl u1), (2, .inl u2), (3, .inr (.inr u3)), (4, .inl v4)] [.inl s2] h (RIo r) h0 r.2) ?_ ?_ hF
      · intro s2 hF
        refine RK.of (RN.blk (ops := [(39, .istore 5), (41, .iload 5)]) (pc' := 43) (lv' := [(5, .inl s2), (0, .inr (.inr u0)), (1, .inl u1), (2, .inl u2), (3, .inr (.inr u3)), (4, .inl v4)]) (st' := [.inl s2]) (h' := h) (cs := []) (by decide +kernel) rfl trivial) ?_
        rcases it_of hF with ⟨hb, hF⟩ | ⟨hb, hF⟩
        · refine RK.of (RN.ift (cd := .eq) (off := 24) (tgt := 67) (by decide +kernel) (mif_eq hb)) ?_
          refine RK.of (RN.blk (ops := [(67, .iinc 4 1)]) (pc' := 70) (lv' := [(4, .inl (m_w32 (v4 + 1))), (5, .inl s2), (0, .inr (.inr u0)), (1, .inl u1), (2, .inl u2), (3, .inr (.inr u3))]) (st' := []) (h' := h) (cs := []) (by decide +kernel) rfl trivial) ?_
          refine RK.of (RN.goto (off := -67) (tgt := 3) (by decide +kernel)) ?_
          exact RK.sub (ih _ _ hL hJ hF) (sub_cons rfl (sub_cons rfl (sub_cons rfl (sub_cons rfl (sub_cons rfl sub_nil)))))
        · refine RK.of (RN.iff (cd := .eq) (off := 24) (tgt := 67) (by decide +kernel) (mif_eqn hb)) ?_
          refine RK.of (RN.blk (ops := [(46, .aload_n 3), (47, .aload_n 0)]) (pc' := 48) (lv' := [(5, .inl s2), (0, .inr (.inr u0)), (1, .inl u1), (2, .inl u2), (3, .inr (.inr u3)), (4, .inl v4)]) (st' := [.inr (.inr u0), .inr (.inr u3)]) (h' := h) (cs := []) (by decide +kernel) rfl trivial) ?_
          refine RK.of (RN.gr (i := 36) (ci := 2) (k := 7) (fn := true) (v := (u0 + 21)) (by decide +kernel) rfl (TO.gk k_u0) (hL.fa (v := (u0 + 21)) 7 1 10 k_u0 rfl rfl rfl (by decide)).1) ?_
          obtain ⟨hc, hF⟩ := gd_of hF
          refine RK.of (RN.blk (ops := [(51, .iload 4), (53, .iaload), (54, .iaload), (55, .aload_n 0)]) (pc' := 56) (lv' := [(5, .inl s2), (0, .inr (.inr u0)), (1, .inl u1), (2, .inl u2), (3, .inr (.inr u3)), (4, .inl v4)]) (st' := [.inr (.inr u0), .inl (m_rd h u3 (m_rd h (u0 + 21) v4))]) (h' := h) (cs := [GI h (u0 + 21) 1 v4, GI h u3 1 (m_rd h (u0 + 21) v4)]) (by decide +kernel) rfl ⟨(hL.fa 7 1 10 k_u0 rfl rfl rfl (by decide)).2.gi hc.1.1 hc.1.2, hc.2.1, trivial⟩) ?_
          refine RK.of (RN.gr (i := 39) (ci := 2) (k := 8) (fn := true) (v := (u0 + 22)) (by decide +kernel) rfl (TO.gk k_u0) (hL.fa (v := (u0 + 22)) 8 1 10 k_u0 rfl rfl rfl (by decide)).1) ?_
          obtain ⟨hc, hF⟩ := gd_of hF
          refine RK.of (RN.blk (ops := [(59, .iload 4), (61, .iaload)]) (pc' := 62) (lv' := [(5, .inl s2), (0, .inr (.inr u0)), (1, .inl u1), (2, .inl u2), (3, .inr (.inr u3)), (4, .inl v4)]) (st' := [.inl (m_rd h (u0 + 22) v4), .inl (m_rd h u3 (m_rd h (u0 + 21) v4))]) (h' := h) (cs := [GI h (u0 + 22) 1 v4]) (by decide +kernel) rfl ⟨(hL.fa 8 1 10 k_u0 rfl rfl rfl (by decide)).2.gi hc.1.1 hc.1.2, trivial⟩) ?_
          rcases it_of hF with ⟨hb, hF⟩ | ⟨hb, hF⟩
          · refine RK.of (RN.ict (cd := .eq) (off := 5) (tgt := 67) (by decide +kernel) (mif_eq hb)) ?_
            refine RK.of (RN.blk (ops := [(67, .iinc 4 1)]) (pc' := 70) (lv' := [(4, .inl (m_w32 (v4 + 1))), (5, .inl s2), (0, .inr (.inr u0)), (1, .inl u1), (2, .inl u2), (3, .inr (.inr u3))]) (st' := []) (h' := h) (cs := []) (by decide +kernel) rfl trivial) ?_
            refine RK.of (RN.goto (off := -67) (tgt := 3) (by decide +kernel)) ?_
            exact RK.sub (ih _ _ hL hJ hF) (sub_cons rfl (sub_cons rfl (sub_cons rfl (sub_cons rfl (sub_cons rfl sub_nil)))))
          · refine RK.of (RN.icf (cd := .eq) (off := 5) (tgt := 67) (by decide +kernel) (mif_eqn hb)) ?_
            exact RK.sub (hK0 _ hL hJ hF) sub_nil
      · intro j1 Jj1 hF
        refine jn_use (fun j3 => j3 = some r → RK xs L iX2_notesHold (d) 38 [(0, .inr (.inr u0)), (1, .inl u1), (2, .inl u2), (3, .inr (.inr u3)), (4, .inl v4)] [] h (RIo r) h0 r.2) ?_ ?_ hF
        · intro  hF
          refine RK.of (RN.blk (ops := [(38, .iconst 0)]) (pc' := 39) (lv' := [(0, .inr (.inr u0)), (1, .inl u1), (2, .inl u2), (3, .inr (.inr u3)), (4, .inl v4)]) (st' := [.inl 0]) (h' := h) (cs := []) (by decide +kernel) rfl trivial) ?_
          exact RK.sub (Jj1 _ hF) (sub_cons rfl (sub_cons rfl (sub_cons rfl (sub_cons rfl (sub_cons rfl sub_nil)))))
        · intro j3 Jj3 hF
          rcases it_of hF with ⟨hb, hF⟩ | ⟨hb, hF⟩
          · refine RK.of (RN.ict (cd := .lt) (off := 18) (tgt := 38) (by decide +kernel) (mif_lt hb)) ?_
            exact RK.sub (Jj3 hF) (sub_cons rfl (sub_cons rfl (sub_cons rfl (sub_cons rfl (sub_cons rfl sub_nil)))))
          · refine RK.of (RN.icf (cd := .lt) (off := 18) (tgt := 38) (by decide +kernel) (mif_ltn hb)) ?_
            refine RK.of (RN.blk (ops := [(23, .aload_n 0)]) (pc' := 24) (lv' := [(0, .inr (.inr u0)), (1, .inl u1), (2, .inl u2), (3, .inr (.inr u3)), (4, .inl v4)]) (st' := [.inr (.inr u0)]) (h' := h) (cs := []) (by decide +kernel) rfl trivial) ?_
            refine RK.of (RN.gr (i := 32) (ci := 2) (k := 6) (fn := true) (v := (u0 + 20)) (by decide +kernel) rfl (TO.gk k_u0) (hL.fa (v := (u0 + 20)) 6 1 10 k_u0 rfl rfl rfl (by decide)).1) ?_
            obtain ⟨hc, hF⟩ := gd_of hF
            refine RK.of (RN.blk (ops := [(27, .iload 4), (29, .iaload), (30, .iload_n 2)]) (pc' := 31) (lv' := [(0, .inr (.inr u0)), (1, .inl u1), (2, .inl u2), (3, .inr (.inr u3)), (4, .inl v4)]) (st' := [.inl u2, .inl (m_rd h (u0 + 20) v4)]) (h' := h) (cs := [GI h (u0 + 20) 1 v4]) (by decide +kernel) rfl ⟨(hL.fa 6 1 10 k_u0 rfl rfl rfl (by decide)).2.gi hc.1.1 hc.1.2, trivial⟩) ?_
            rcases it_of hF with ⟨hb, hF⟩ | ⟨hb, hF⟩
            · refine RK.of (RN.ict (cd := .gt) (off := 7) (tgt := 38) (by decide +kernel) (mif_gt hb)) ?_
              exact RK.sub (Jj3 hF) (sub_cons rfl (sub_cons rfl (sub_cons rfl (sub_cons rfl (sub_cons rfl sub_nil)))))
            · refine RK.of (RN.icf (cd := .gt) (off := 7) (tgt := 38) (by decide +kernel) (mif_gtn hb)) ?_
              refine RK.of (RN.blk (ops := [(34, .iconst 1)]) (pc' := 35) (lv' := [(0, .inr (.inr u0)), (1, .inl u1), (2, .inl u2), (3, .inr (.inr u3)), (4, .inl v4)]) (st' := [.inl 1]) (h' := h) (cs := []) (by decide +kernel) rfl trivial) ?_
              refine RK.of (RN.goto (off := 4) (tgt := 39) (by decide +kernel)) ?_
              exact RK.sub (Jj1 _ hF) (sub_cons rfl (sub_cons rfl (sub_cons rfl (sub_cons rfl (sub_cons rfl sub_nil)))))
    · refine RK.of (RN.ict (cd := .ge) (off := 64) (tgt := 73) (by decide +kernel) (mif_ge hb)) ?_
      exact RK.sub (hK1 _ hL hJ hF) sub_nil
noncomputable def GX2_notesHold (t : Int) (a1 : Int) (a2 : Int) (a3 : Int) (h : MH) : Option (Int × MH) :=
  GX2_notesHold_L3 t a1 a2 a3 (fun h1 =>
   some (0, h1)) (fun h2 =>
   some (1, h2)) FU 0 h
theorem DX2_notesHold {d : Nat} {t : Int} {a1 : Int} {a2 : Int} {a3 : Int} {h : MH} {r : Int × MH} (hL : LR h) (k0_t : TO h t 2) (hF : GX2_notesHold t a1 a2 a3 h = some r) : RN xs L iX2_notesHold (d) 0 (lvE 0 [.inr (.inr t), .inl a1, .inl a2, .inr (.inr a3)]) [] h (RIo r) ∧ LR r.2 ∧ KD h r.2 := by
  unfold GX2_notesHold at hF
  have hK : KD h h := KD.rf
  have k_t := k0_t
  show RK xs L iX2_notesHold (d) 0 (lvE 0 [.inr (.inr t), .inl a1, .inl a2, .inr (.inr a3)]) [] h (RIo r) h r.2
  refine RK.of (RN.blk (ops := [(0, .iconst 0), (1, .istore 4)]) (pc' := 3) (lv' := [(4, .inl 0), (0, .inr (.inr t)), (1, .inl a1), (2, .inl a2), (3, .inr (.inr a3))]) (st' := []) (h' := h) (cs := []) (by decide +kernel) rfl trivial) ?_
  refine RK.sub (DX2_notesHold_L3 hK k_t ?_ ?_ _ _ _ hL KD.rf hF) (sub_cons rfl (sub_cons rfl (sub_cons rfl (sub_cons rfl (sub_cons rfl sub_nil)))))
  · intro h1 hL hq hF
    have k_t := hq.to k_t
    have hK := hK.tr hq
    refine RK.of (RN.blk (ops := [(65, .iconst 0)]) (pc' := 66) (lv' := []) (st' := [.inl 0]) (h' := h1) (cs := []) (by decide +kernel) rfl trivial) ?_
    exact RK.zR (by decide +kernel) rfl (Or.inl rfl) hL hK hF
  · intro h2 hL hq hF
    have k_t := hq.to k_t
    have hK := hK.tr hq
    refine RK.of (RN.blk (ops := [(73, .iconst 1)]) (pc' := 74) (lv' := []) (st' := [.inl 1]) (h' := h2) (cs := []) (by decide +kernel) rfl trivial) ?_
    exact RK.zR (by decide +kernel) rfl (Or.inr rfl) hL hK hF
noncomputable def GX10_clear_L25 (u0 : Int) (K0 : MH → Option (MH)) : Nat → Int → MH → Option (MH)
  | 0, _, _ => none
  | f + 1, v1, h =>
    (if v1 < 6 then
     gd [IB v1 6] (
      gd [IB v1 6] (
       GX10_clear_L25 u0 K0 f (m_w32 (v1 + 1)) (m_wr (m_wr h (u0 + 6) v1 0) (u0 + 7) v1 0)))
    else
     K0 h)
theorem DX10_clear_L25 {d : Nat} {u0 : Int} {K0 : MH → Option (MH)} {r : MH} {h0 hB : MH} (hB0 : KD h0 hB) (k0_u0 : TO hB u0 10) (hK0 : ∀ (h : MH), LR h → KD hB h → K0 h = some r → RK xs L iX10_clear (d) 51 [] [] h (RVo r) h0 r) : ∀ (f : Nat) (v1 : Int) (h : MH), LR h → KD hB h → GX10_clear_L25 u0 K0 f v1 h = some r → RK xs L iX10_clear (d) 25 [(0, .inr (.inr u0)), (1, .inl v1)] [] h (RVo r) h0 r := by
  intro f
  induction f with
  | zero =>
    intro v1 h hL hJ hF
    cases hF
  | succ f ih =>
    intro v1 h hL hJ hF
    unfold GX10_clear_L25 at hF
    have hK := hB0.tr hJ
    have k_u0 := hJ.to k0_u0
    refine RK.of (RN.blk (ops := [(25, .iload_n 1), (26, .bipush 6)]) (pc' := 28) (lv' := [(0, .inr (.inr u0)), (1, .inl v1)]) (st' := [.inl 6, .inl v1]) (h' := h) (cs := []) (by decide +kernel) rfl trivial) ?_
    rcases it_of hF with ⟨hb, hF⟩ | ⟨hb, hF⟩
    · refine RK.of (RN.icf (cd := .ge) (off := 23) (tgt := 51) (by decide +kernel) (mif_gen hb)) ?_
      refine RK.of (RN.blk (ops := [(31, .aload_n 0)]) (pc' := 32) (lv' := [(0, .inr (.inr u0)), (1, .inl v1)]) (st' := [.inr (.inr u0)]) (h' := h) (cs := []) (by decide +kernel) rfl trivial) ?_
      refine RK.of (RN.gr (i := 22) (ci := 10) (k := 3) (fn := true) (v := (u0 + 6)) (by decide +kernel) rfl (TO.gk k_u0) (hL.fa (v := (u0 + 6)) 3 1 6 k_u0 rfl rfl rfl (by decide)).1) ?_
      obtain ⟨hc, hF⟩ := gd_of hF
      refine RK.of (RN.blk (ops := [(35, .iload_n 1), (36, .iconst 0), (37, .iastore)]) (pc' := 38) (lv' := [(0, .inr (.inr u0)), (1, .inl v1)]) (st' := []) (h' := (m_wr h (u0 + 6) v1 0)) (cs := [GI h (u0 + 6) 1 v1]) (by decide +kernel) rfl ⟨(hL.fa 3 1 6 k_u0 rfl rfl rfl (by decide)).2.gi hc.1.1 hc.1.2, trivial⟩) ?_
      have hL : LR (m_wr h (u0 + 6) v1 0) := hL.wa (TA.le5 (hL.fa 3 1 6 k_u0 rfl rfl rfl (by decide)).2 (by decide))
      have k_u0 := (KD.wr : KD h (m_wr h (u0 + 6) v1 0)).to k_u0
      have hK := hK.tr (KD.wr : KD h (m_wr h (u0 + 6) v1 0))
      have hJ := hJ.tr (KD.wr : KD h (m_wr h (u0 + 6) v1 0))
      refine RK.of (RN.blk (ops := [(38, .aload_n 0)]) (pc' := 39) (lv' := [(0, .inr (.inr u0)), (1, .inl v1)]) (st' := [.inr (.inr u0)]) (h' := (m_wr h (u0 + 6) v1 0)) (cs := []) (by decide +kernel) rfl trivial) ?_
      refine RK.of (RN.gr (i := 25) (ci := 10) (k := 4) (fn := true) (v := (u0 + 7)) (by decide +kernel) rfl (TO.gk k_u0) (hL.fa (v := (u0 + 7)) 4 1 6 k_u0 rfl rfl rfl (by decide)).1) ?_
      obtain ⟨hc, hF⟩ := gd_of hF
      refine RK.of (RN.blk (ops := [(42, .iload_n 1), (43, .iconst 0), (44, .iastore)]) (pc' := 45) (lv' := [(0, .inr (.inr u0)), (1, .inl v1)]) (st' := []) (h' := (m_wr (m_wr h (u0 + 6) v1 0) (u0 + 7) v1 0)) (cs := [GI (m_wr h (u0 + 6) v1 0) (u0 + 7) 1 v1]) (by decide +kernel) rfl ⟨(hL.fa 4 1 6 k_u0 rfl rfl rfl (by decide)).2.gi hc.1.1 hc.1.2, trivial⟩) ?_
      have hL : LR (m_wr (m_wr h (u0 + 6) v1 0) (u0 + 7) v1 0) := hL.wa (TA.le5 (hL.fa 4 1 6 k_u0 rfl rfl rfl (by decide)).2 (by decide))
      have k_u0 := (KD.wr : KD (m_wr h (u0 + 6) v1 0) (m_wr (m_wr h (u0 + 6) v1 0) (u0 + 7) v1 0)).to k_u0
      have hK := hK.tr (KD.wr : KD (m_wr h (u0 + 6) v1 0) (m_wr (m_wr h (u0 + 6) v1 0) (u0 + 7) v1 0))
      have hJ := hJ.tr (KD.wr : KD (m_wr h (u0 + 6) v1 0) (m_wr (m_wr h (u0 + 6) v1 0) (u0 + 7) v1 0))
      refine RK.of (RN.blk (ops := [(45, .iinc 1 1)]) (pc' := 48) (lv' := [(1, .inl (m_w32 (v1 + 1))), (0, .inr (.inr u0))]) (st' := []) (h' := (m_wr (m_wr h (u0 + 6) v1 0) (u0 + 7) v1 0)) (cs := []) (by decide +kernel) rfl trivial) ?_
      refine RK.of (RN.goto (off := -23) (tgt := 25) (by decide +kernel)) ?_
      exact RK.sub (ih _ _ hL hJ hF) (sub_cons rfl (sub_cons rfl sub_nil))
    · refine RK.of (RN.ict (cd := .ge) (off := 23) (tgt := 51) (by decide +kernel) (mif_ge hb)) ?_
      exact RK.sub (hK0 _ hL hJ hF) sub_nil
noncomputable def GX10_clear (t : Int) (h : MH) : Option (MH) :=
  GX10_clear_L25 t (fun h1 =>
   some h1) FU 0 (m_wr (m_wr (m_wr (m_wr h (t + 1) 0 0) t 1 0) t 5 0) t 6 0)
theorem DX10_clear {d : Nat} {t : Int} {h : MH} {r : MH} (hL : LR h) (k0_t : TO h t 10) (hF : GX10_clear t h = some r) : RN xs L iX10_clear (d) 0 (lvE 0 [.inr (.inr t)]) [] h (RVo r) ∧ LR r ∧ KD h r := by
  unfold GX10_clear at hF
  have hK : KD h h := KD.rf
  have k_t := k0_t
  show RK xs L iX10_clear (d) 0 (lvE 0 [.inr (.inr t)]) [] h (RVo r) h r
  refine RK.of (RN.blk (ops := [(0, .aload_n 0)]) (pc' := 1) (lv' := [(0, .inr (.inr t))]) (st' := [.inr (.inr t)]) (h' := h) (cs := []) (by decide +kernel) rfl trivial) ?_
  refine RK.of (RN.gr (i := 12) (ci := 10) (k := 0) (fn := true) (v := (t + 1)) (by decide +kernel) rfl (TO.gk k_t) (hL.fo (v := (t + 1)) 0 4 k_t rfl rfl rfl).1) ?_
  refine RK.of (RN.blk (ops := [(4, .iconst 0), (5, .putfield 28)]) (pc' := 8) (lv' := [(0, .inr (.inr t))]) (st' := []) (h' := (m_wr h (t + 1) 0 0)) (cs := [GK h (t + 1) 4]) (by decide +kernel) rfl ⟨(hL.fo 0 4 k_t rfl rfl rfl).2.gk, trivial⟩) ?_
  have hL : LR (m_wr h (t + 1) 0 0) := LR.wf (k := 0) hL (hL.fo 0 4 k_t rfl rfl rfl).2 rfl
  have k_t := (KD.wr : KD h (m_wr h (t + 1) 0 0)).to k_t
  have hK := hK.tr (KD.wr : KD h (m_wr h (t + 1) 0 0))
  refine RK.of (RN.blk (ops := [(8, .aload_n 0), (9, .iconst 0), (10, .putfield 32)]) (pc' := 13) (lv' := [(0, .inr (.inr t))]) (st' := []) (h' := (m_wr (m_wr h (t + 1) 0 0) t 1 0)) (cs := [GK (m_wr h (t + 1) 0 0) t 10]) (by decide +kernel) rfl ⟨k_t.gk, trivial⟩) ?_
  have hL : LR (m_wr (m_wr h (t + 1) 0 0) t 1 0) := LR.wf (k := 1) hL k_t rfl
  have k_t := (KD.wr : KD (m_wr h (t + 1) 0 0) (m_wr (m_wr h (t + 1) 0 0) t 1 0)).to k_t
  have hK := hK.tr (KD.wr : KD (m_wr h (t + 1) 0 0) (m_wr (m_wr h (t + 1) 0 0) t 1 0))
  refine RK.of (RN.blk (ops := [(13, .aload_n 0), (14, .iconst 0), (15, .putfield 35)]) (pc' := 18) (lv' := [(0, .inr (.inr t))]) (st' := []) (h' := (m_wr (m_wr (m_wr h (t + 1) 0 0) t 1 0) t 5 0)) (cs := [GK (m_wr (m_wr h (t + 1) 0 0) t 1 0) t 10]) (by decide +kernel) rfl ⟨k_t.gk, trivial⟩) ?_
  have hL : LR (m_wr (m_wr (m_wr h (t + 1) 0 0) t 1 0) t 5 0) := LR.wf (k := 5) hL k_t rfl
  have k_t := (KD.wr : KD (m_wr (m_wr h (t + 1) 0 0) t 1 0) (m_wr (m_wr (m_wr h (t + 1) 0 0) t 1 0) t 5 0)).to k_t
  have hK := hK.tr (KD.wr : KD (m_wr (m_wr h (t + 1) 0 0) t 1 0) (m_wr (m_wr (m_wr h (t + 1) 0 0) t 1 0) t 5 0))
  refine RK.of (RN.blk (ops := [(18, .aload_n 0), (19, .iconst 0), (20, .putfield 38)]) (pc' := 23) (lv' := [(0, .inr (.inr t))]) (st' := []) (h' := (m_wr (m_wr (m_wr (m_wr h (t + 1) 0 0) t 1 0) t 5 0) t 6 0)) (cs := [GK (m_wr (m_wr (m_wr h (t + 1) 0 0) t 1 0) t 5 0) t 10]) (by decide +kernel) rfl ⟨k_t.gk, trivial⟩) ?_
  have hL : LR (m_wr (m_wr (m_wr (m_wr h (t + 1) 0 0) t 1 0) t 5 0) t 6 0) := LR.wf (k := 6) hL k_t rfl
  have k_t := (KD.wr : KD (m_wr (m_wr (m_wr h (t + 1) 0 0) t 1 0) t 5 0) (m_wr (m_wr (m_wr (m_wr h (t + 1) 0 0) t 1 0) t 5 0) t 6 0)).to k_t
  have hK := hK.tr (KD.wr : KD (m_wr (m_wr (m_wr h (t + 1) 0 0) t 1 0) t 5 0) (m_wr (m_wr (m_wr (m_wr h (t + 1) 0 0) t 1 0) t 5 0) t 6 0))
  refine RK.of (RN.blk (ops := [(23, .iconst 0), (24, .istore_n 1)]) (pc' := 25) (lv' := [(1, .inl 0), (0, .inr (.inr t))]) (st' := []) (h' := (m_wr (m_wr (m_wr (m_wr h (t + 1) 0 0) t 1 0) t 5 0) t 6 0)) (cs := []) (by decide +kernel) rfl trivial) ?_
  refine RK.sub (DX10_clear_L25 hK k_t ?_ _ _ _ hL KD.rf hF) (sub_cons rfl (sub_cons rfl sub_nil))
  · intro h1 hL hq hF
    have k_t := hq.to k_t
    have hK := hK.tr hq
    exact RK.vR (by decide +kernel) rfl hL hK hF
noncomputable def GX4_put (t : Int) (a1 : Int) (a2 : Int) (a3 : Int) (h : MH) : Option (Int × MH) :=
  (bd (GX4_find t a1 a2 h) (fun x2 h1 =>
   (if x2 = (-1) then
    (if (m_rd h1 t 0) < 12 then
     gd [IB (m_rd h1 t 0) 12] (
      hl (m_wr (m_wr h1 t 0 (m_w32 ((m_rd h1 t 0) + 1))) (t + 1) (m_rd h1 t 0) a1) (fun h3 =>
       gd [IB (m_rd h1 t 0) 12] (
        gd [IB (m_rd h1 t 0) 12] (
         some ((m_rd h1 t 0), (m_wr (m_wr h3 (t + 2) (m_rd h1 t 0) a2) (t + 3) (m_rd h1 t 0) a3))))))
    else
     some ((-1), h1))
   else
    gd [IB x2 12] (
     some (x2, (m_wr h1 (t + 3) x2 a3))))))
theorem DX4_put {d : Nat} {t : Int} {a1 : Int} {a2 : Int} {a3 : Int} {h : MH} {r : Int × MH} (hL : LR h) (k0_t : TO h t 4) (hF : GX4_put t a1 a2 a3 h = some r) : RN xs L iX4_put (d + 1) 0 (lvE 0 [.inr (.inr t), .inl a1, .inl a2, .inl a3]) [] h (RIo r) ∧ LR r.2 ∧ KD h r.2 := by
  unfold GX4_put at hF
  have hK : KD h h := KD.rf
  have k_t := k0_t
  show RK xs L iX4_put (d + 1) 0 (lvE 0 [.inr (.inr t), .inl a1, .inl a2, .inl a3]) [] h (RIo r) h r.2
  refine RK.of (RN.blk (ops := [(0, .aload_n 0), (1, .iload_n 1), (2, .iload_n 2)]) (pc' := 3) (lv' := [(0, .inr (.inr t)), (1, .inl a1), (2, .inl a2), (3, .inl a3)]) (st' := [.inl a2, .inl a1, .inr (.inr t)]) (h' := h) (cs := []) (by decide +kernel) rfl trivial) ?_
  obtain ⟨x2, h1, hG, hF⟩ := bd_of hF
  have hq := rcv_ok (as := [.inl a1, .inl a2]) (TO.gk k_t)
  obtain ⟨hN, hL, hQ⟩ := DX4_find (d := d) hL k_t hG
  refine RK.of (RN.cv (i := 31) (k := 47) (q2 := iX4_find) (as := [.inr (.inr t), .inl a1, .inl a2]) (r := []) (v := some (.inl x2)) (h1 := h1) (by decide +kernel) rfl rfl rfl rfl rfl hq hN) ?_
  have k_t := hQ.to k_t
  have hK := hK.tr hQ
  refine RK.of (RN.blk (ops := [(6, .istore 4), (8, .iload 4), (10, .iconst (-1))]) (pc' := 11) (lv' := [(4, .inl x2), (0, .inr (.inr t)), (1, .inl a1), (2, .inl a2), (3, .inl a3)]) (st' := [.inl (-1), .inl x2]) (h' := h1) (cs := []) (by decide +kernel) rfl trivial) ?_
  rcases it_of hF with ⟨hb, hF⟩ | ⟨hb, hF⟩
  · refine RK.of (RN.icf (cd := .ne) (off := 46) (tgt := 57) (by decide +kernel) (mif_nen hb)) ?_
    refine RK.of (RN.blk (ops := [(14, .aload_n 0), (15, .getfield 21), (18, .bipush 12)]) (pc' := 20) (lv' := [(4, .inl x2), (0, .inr (.inr t)), (1, .inl a1), (2, .inl a2), (3, .inl a3)]) (st' := [.inl 12, .inl (m_rd h1 t 0)]) (h' := h1) (cs := [GK h1 t 4]) (by decide +kernel) rfl ⟨k_t.gk, trivial⟩) ?_
    rcases it_of hF with ⟨hb, hF⟩ | ⟨hb, hF⟩
    · refine RK.of (RN.ict (cd := .lt) (off := 5) (tgt := 25) (by decide +kernel) (mif_lt hb)) ?_
      refine RK.of (RN.blk (ops := [(25, .aload_n 0), (26, .getfield 21), (29, .istore 4), (31, .aload_n 0), (32, .dup), (33, .getfield 21), (36, .iconst 1), (37, .iadd), (38, .putfield 21)]) (pc' := 41) (lv' := [(4, .inl (m_rd h1 t 0)), (0, .inr (.inr t)), (1, .inl a1), (2, .inl a2), (3, .inl a3)]) (st' := []) (h' := (m_wr h1 t 0 (m_w32 ((m_rd h1 t 0) + 1)))) (cs := [GK h1 t 4, GK h1 t 4, GK h1 t 4]) (by decide +kernel) rfl ⟨k_t.gk, k_t.gk, k_t.gk, trivial⟩) ?_
      have hL : LR (m_wr h1 t 0 (m_w32 ((m_rd h1 t 0) + 1))) := LR.wf (k := 0) hL k_t rfl
      have k_t := (KD.wr : KD h1 (m_wr h1 t 0 (m_w32 ((m_rd h1 t 0) + 1)))).to k_t
      have hK := hK.tr (KD.wr : KD h1 (m_wr h1 t 0 (m_w32 ((m_rd h1 t 0) + 1))))
      refine RK.of (RN.blk (ops := [(41, .aload_n 0)]) (pc' := 42) (lv' := [(4, .inl (m_rd h1 t 0)), (0, .inr (.inr t)), (1, .inl a1), (2, .inl a2), (3, .inl a3)]) (st' := [.inr (.inr t)]) (h' := (m_wr h1 t 0 (m_w32 ((m_rd h1 t 0) + 1)))) (cs := []) (by decide +kernel) rfl trivial) ?_
      refine RK.of (RN.gr (i := 9) (ci := 4) (k := 1) (fn := true) (v := (t + 1)) (by decide +kernel) rfl (TO.gk k_t) (hL.fa (v := (t + 1)) 1 1 12 k_t rfl rfl rfl (by decide)).1) ?_
      obtain ⟨hc, hF⟩ := gd_of hF
      refine RK.of (RN.blk (ops := [(45, .iload 4), (47, .iload_n 1), (48, .iastore)]) (pc' := 49) (lv' := [(4, .inl (m_rd h1 t 0)), (0, .inr (.inr t)), (1, .inl a1), (2, .inl a2), (3, .inl a3)]) (st' := []) (h' := (m_wr (m_wr h1 t 0 (m_w32 ((m_rd h1 t 0) + 1))) (t + 1) (m_rd h1 t 0) a1)) (cs := [GI (m_wr h1 t 0 (m_w32 ((m_rd h1 t 0) + 1))) (t + 1) 1 (m_rd h1 t 0)]) (by decide +kernel) rfl ⟨(hL.fa 1 1 12 k_t rfl rfl rfl (by decide)).2.gi hc.1.1 hc.1.2, trivial⟩) ?_
      have hL : LR (m_wr (m_wr h1 t 0 (m_w32 ((m_rd h1 t 0) + 1))) (t + 1) (m_rd h1 t 0) a1) := hL.wa (TA.le5 (hL.fa 1 1 12 k_t rfl rfl rfl (by decide)).2 (by decide))
      have k_t := (KD.wr : KD (m_wr h1 t 0 (m_w32 ((m_rd h1 t 0) + 1))) (m_wr (m_wr h1 t 0 (m_w32 ((m_rd h1 t 0) + 1))) (t + 1) (m_rd h1 t 0) a1)).to k_t
      have hK := hK.tr (KD.wr : KD (m_wr h1 t 0 (m_w32 ((m_rd h1 t 0) + 1))) (m_wr (m_wr h1 t 0 (m_w32 ((m_rd h1 t 0) + 1))) (t + 1) (m_rd h1 t 0) a1))
      obtain ⟨h3, he, hF⟩ := hl_of hF
      refine RK.of (RN.hl he) ?_
      rw [← he] at hL hK k_t
      refine RK.of (RN.blk (ops := [(49, .aload_n 0)]) (pc' := 50) (lv' := [(4, .inl (m_rd h1 t 0)), (0, .inr (.inr t)), (1, .inl a1), (2, .inl a2), (3, .inl a3)]) (st' := [.inr (.inr t)]) (h' := h3) (cs := []) (by decide +kernel) rfl trivial) ?_
      refine RK.of (RN.gr (i := 15) (ci := 4) (k := 2) (fn := true) (v := (t + 2)) (by decide +kernel) rfl (TO.gk k_t) (hL.fa (v := (t + 2)) 2 1 12 k_t rfl rfl rfl (by decide)).1) ?_
      obtain ⟨hc, hF⟩ := gd_of hF
      refine RK.of (RN.blk (ops := [(53, .iload 4), (55, .iload_n 2), (56, .iastore)]) (pc' := 57) (lv' := [(4, .inl (m_rd h1 t 0)), (0, .inr (.inr t)), (1, .inl a1), (2, .inl a2), (3, .inl a3)]) (st' := []) (h' := (m_wr h3 (t + 2) (m_rd h1 t 0) a2)) (cs := [GI h3 (t + 2) 1 (m_rd h1 t 0)]) (by decide +kernel) rfl ⟨(hL.fa 2 1 12 k_t rfl rfl rfl (by decide)).2.gi hc.1.1 hc.1.2, trivial⟩) ?_
      have hL : LR (m_wr h3 (t + 2) (m_rd h1 t 0) a2) := hL.wa (TA.le5 (hL.fa 2 1 12 k_t rfl rfl rfl (by decide)).2 (by decide))
      have k_t := (KD.wr : KD h3 (m_wr h3 (t + 2) (m_rd h1 t 0) a2)).to k_t
      have hK := hK.tr (KD.wr : KD h3 (m_wr h3 (t + 2) (m_rd h1 t 0) a2))
      refine RK.of (RN.blk (ops := [(57, .aload_n 0)]) (pc' := 58) (lv' := [(4, .inl (m_rd h1 t 0)), (0, .inr (.inr t)), (1, .inl a1), (2, .inl a2), (3, .inl a3)]) (st' := [.inr (.inr t)]) (h' := (m_wr h3 (t + 2) (m_rd h1 t 0) a2)) (cs := []) (by decide +kernel) rfl trivial) ?_
      refine RK.of (RN.gr (i := 18) (ci := 4) (k := 3) (fn := true) (v := (t + 3)) (by decide +kernel) rfl (TO.gk k_t) (hL.fa (v := (t + 3)) 3 1 12 k_t rfl rfl rfl (by decide)).1) ?_
      obtain ⟨hc, hF⟩ := gd_of hF
      refine RK.of (RN.blk (ops := [(61, .iload 4), (63, .iload_n 3), (64, .iastore)]) (pc' := 65) (lv' := [(4, .inl (m_rd h1 t 0)), (0, .inr (.inr t)), (1, .inl a1), (2, .inl a2), (3, .inl a3)]) (st' := []) (h' := (m_wr (m_wr h3 (t + 2) (m_rd h1 t 0) a2) (t + 3) (m_rd h1 t 0) a3)) (cs := [GI (m_wr h3 (t + 2) (m_rd h1 t 0) a2) (t + 3) 1 (m_rd h1 t 0)]) (by decide +kernel) rfl ⟨(hL.fa 3 1 12 k_t rfl rfl rfl (by decide)).2.gi hc.1.1 hc.1.2, trivial⟩) ?_
      have hL : LR (m_wr (m_wr h3 (t + 2) (m_rd h1 t 0) a2) (t + 3) (m_rd h1 t 0) a3) := hL.wa (TA.le5 (hL.fa 3 1 12 k_t rfl rfl rfl (by decide)).2 (by decide))
      have k_t := (KD.wr : KD (m_wr h3 (t + 2) (m_rd h1 t 0) a2) (m_wr (m_wr h3 (t + 2) (m_rd h1 t 0) a2) (t + 3) (m_rd h1 t 0) a3)).to k_t
      have hK := hK.tr (KD.wr : KD (m_wr h3 (t + 2) (m_rd h1 t 0) a2) (m_wr (m_wr h3 (t + 2) (m_rd h1 t 0) a2) (t + 3) (m_rd h1 t 0) a3))
      refine RK.of (RN.blk (ops := [(65, .iload 4)]) (pc' := 67) (lv' := [(4, .inl (m_rd h1 t 0)), (0, .inr (.inr t)), (1, .inl a1), (2, .inl a2), (3, .inl a3)]) (st' := [.inl (m_rd h1 t 0)]) (h' := (m_wr (m_wr h3 (t + 2) (m_rd h1 t 0) a2) (t + 3) (m_rd h1 t 0) a3)) (cs := []) (by decide +kernel) rfl trivial) ?_
      exact RK.iR (by decide +kernel) rfl hL hK hF
    · refine RK.of (RN.icf (cd := .lt) (off := 5) (tgt := 25) (by decide +kernel) (mif_ltn hb)) ?_
      refine RK.of (RN.blk (ops := [(23, .iconst (-1))]) (pc' := 24) (lv' := [(4, .inl x2), (0, .inr (.inr t)), (1, .inl a1), (2, .inl a2), (3, .inl a3)]) (st' := [.inl (-1)]) (h' := h1) (cs := []) (by decide +kernel) rfl trivial) ?_
      exact RK.iR (by decide +kernel) rfl hL hK hF
  · refine RK.of (RN.ict (cd := .ne) (off := 46) (tgt := 57) (by decide +kernel) (mif_ne hb)) ?_
    refine RK.of (RN.blk (ops := [(57, .aload_n 0)]) (pc' := 58) (lv' := [(4, .inl x2), (0, .inr (.inr t)), (1, .inl a1), (2, .inl a2), (3, .inl a3)]) (st' := [.inr (.inr t)]) (h' := h1) (cs := []) (by decide +kernel) rfl trivial) ?_
    refine RK.of (RN.gr (i := 18) (ci := 4) (k := 3) (fn := true) (v := (t + 3)) (by decide +kernel) rfl (TO.gk k_t) (hL.fa (v := (t + 3)) 3 1 12 k_t rfl rfl rfl (by decide)).1) ?_
    obtain ⟨hc, hF⟩ := gd_of hF
    refine RK.of (RN.blk (ops := [(61, .iload 4), (63, .iload_n 3), (64, .iastore)]) (pc' := 65) (lv' := [(4, .inl x2), (0, .inr (.inr t)), (1, .inl a1), (2, .inl a2), (3, .inl a3)]) (st' := []) (h' := (m_wr h1 (t + 3) x2 a3)) (cs := [GI h1 (t + 3) 1 x2]) (by decide +kernel) rfl ⟨(hL.fa 3 1 12 k_t rfl rfl rfl (by decide)).2.gi hc.1.1 hc.1.2, trivial⟩) ?_
    have hL : LR (m_wr h1 (t + 3) x2 a3) := hL.wa (TA.le5 (hL.fa 3 1 12 k_t rfl rfl rfl (by decide)).2 (by decide))
    have k_t := (KD.wr : KD h1 (m_wr h1 (t + 3) x2 a3)).to k_t
    have hK := hK.tr (KD.wr : KD h1 (m_wr h1 (t + 3) x2 a3))
    refine RK.of (RN.blk (ops := [(65, .iload 4)]) (pc' := 67) (lv' := [(4, .inl x2), (0, .inr (.inr t)), (1, .inl a1), (2, .inl a2), (3, .inl a3)]) (st' := [.inl x2]) (h' := (m_wr h1 (t + 3) x2 a3)) (cs := []) (by decide +kernel) rfl trivial) ?_
    exact RK.iR (by decide +kernel) rfl hL hK hF
noncomputable def GX9_fail (a1 : Int) (a2 : Int) (h : MH) : Option (Int × MH) :=
  (if (m_rd h 1 3) = 0 then
   some (0, (m_wr h 1 3 (m_w32 ((m_w32 (1 + (m_w32 (8 * a1)))) + a2))))
  else
   some (0, h))
theorem DX9_fail {d : Nat} {a1 : Int} {a2 : Int} {h : MH} {r : Int × MH} (hL : LR h) (hF : GX9_fail a1 a2 h = some r) : RN xs L iX9_fail (d) 0 (lvE 0 [.inr (.inr 1), .inl a1, .inl a2]) [] h (RIo r) ∧ LR r.2 ∧ KD h r.2 := by
  unfold GX9_fail at hF
  have hK : KD h h := KD.rf
  show RK xs L iX9_fail (d) 0 (lvE 0 [.inr (.inr 1), .inl a1, .inl a2]) [] h (RIo r) h r.2
  refine RK.of (RN.blk (ops := [(0, .aload_n 0), (1, .getfield 22)]) (pc' := 4) (lv' := [(0, .inr (.inr 1)), (1, .inl a1), (2, .inl a2)]) (st' := [.inl (m_rd h 1 3)]) (h' := h) (cs := [GK h 1 9]) (by decide +kernel) rfl ⟨(o_1 hL).gk, trivial⟩) ?_
  rcases it_of hF with ⟨hb, hF⟩ | ⟨hb, hF⟩
  · refine RK.of (RN.iff (cd := .ne) (off := 15) (tgt := 19) (by decide +kernel) (mif_nen hb)) ?_
    refine RK.of (RN.blk (ops := [(7, .aload_n 0), (8, .iconst 1), (9, .bipush 8), (11, .iload_n 1), (12, .imul), (13, .iadd), (14, .iload_n 2), (15, .iadd), (16, .putfield 22)]) (pc' := 19) (lv' := [(0, .inr (.inr 1)), (1, .inl a1), (2, .inl a2)]) (st' := []) (h' := (m_wr h 1 3 (m_w32 ((m_w32 (1 + (m_w32 (8 * a1)))) + a2)))) (cs := [GK h 1 9]) (by decide +kernel) rfl ⟨(o_1 hL).gk, trivial⟩) ?_
    have hL : LR (m_wr h 1 3 (m_w32 ((m_w32 (1 + (m_w32 (8 * a1)))) + a2))) := LR.wf (k := 3) hL (o_1 hL) rfl
    have hK := hK.tr (KD.wr : KD h (m_wr h 1 3 (m_w32 ((m_w32 (1 + (m_w32 (8 * a1)))) + a2))))
    refine RK.of (RN.blk (ops := [(19, .iconst 0)]) (pc' := 20) (lv' := [(0, .inr (.inr 1)), (1, .inl a1), (2, .inl a2)]) (st' := [.inl 0]) (h' := (m_wr h 1 3 (m_w32 ((m_w32 (1 + (m_w32 (8 * a1)))) + a2)))) (cs := []) (by decide +kernel) rfl trivial) ?_
    exact RK.zR (by decide +kernel) rfl (Or.inl rfl) hL hK hF
  · refine RK.of (RN.ift (cd := .ne) (off := 15) (tgt := 19) (by decide +kernel) (mif_ne hb)) ?_
    refine RK.of (RN.blk (ops := [(19, .iconst 0)]) (pc' := 20) (lv' := [(0, .inr (.inr 1)), (1, .inl a1), (2, .inl a2)]) (st' := [.inl 0]) (h' := h) (cs := []) (by decide +kernel) rfl trivial) ?_
    exact RK.zR (by decide +kernel) rfl (Or.inl rfl) hL hK hF
noncomputable def GX9_isDigit (a1 : Int) (h : MH) : Option (Int × MH) :=
  (if a1 < 48 then
   some (0, h)
  else
   (if 57 < a1 then
    some (0, h)
   else
    some (1, h)))
theorem DX9_isDigit {d : Nat} {a1 : Int} {h : MH} {r : Int × MH} (hL : LR h) (hF : GX9_isDigit a1 h = some r) : RN xs L iX9_isDigit (d) 0 (lvE 0 [.inl a1]) [] h (RIo r) ∧ LR r.2 ∧ KD h r.2 := by
  unfold GX9_isDigit at hF
  have hK : KD h h := KD.rf
  show RK xs L iX9_isDigit (d) 0 (lvE 0 [.inl a1]) [] h (RIo r) h r.2
  refine RK.of (RN.blk (ops := [(0, .iload_n 0), (1, .bipush 48)]) (pc' := 3) (lv' := [(0, .inl a1)]) (st' := [.inl 48, .inl a1]) (h' := h) (cs := []) (by decide +kernel) rfl trivial) ?_
  rcases it_of hF with ⟨hb, hF⟩ | ⟨hb, hF⟩
  · refine RK.of (RN.ict (cd := .lt) (off := 13) (tgt := 16) (by decide +kernel) (mif_lt hb)) ?_
    refine RK.of (RN.blk (ops := [(16, .iconst 0)]) (pc' := 17) (lv' := [(0, .inl a1)]) (st' := [.inl 0]) (h' := h) (cs := []) (by decide +kernel) rfl trivial) ?_
    exact RK.zR (by decide +kernel) rfl (Or.inl rfl) hL hK hF
  · refine RK.of (RN.icf (cd := .lt) (off := 13) (tgt := 16) (by decide +kernel) (mif_ltn hb)) ?_
    refine RK.of (RN.blk (ops := [(6, .iload_n 0), (7, .bipush 57)]) (pc' := 9) (lv' := [(0, .inl a1)]) (st' := [.inl 57, .inl a1]) (h' := h) (cs := []) (by decide +kernel) rfl trivial) ?_
    rcases it_of hF with ⟨hb, hF⟩ | ⟨hb, hF⟩
    · refine RK.of (RN.ict (cd := .gt) (off := 7) (tgt := 16) (by decide +kernel) (mif_gt hb)) ?_
      refine RK.of (RN.blk (ops := [(16, .iconst 0)]) (pc' := 17) (lv' := [(0, .inl a1)]) (st' := [.inl 0]) (h' := h) (cs := []) (by decide +kernel) rfl trivial) ?_
      exact RK.zR (by decide +kernel) rfl (Or.inl rfl) hL hK hF
    · refine RK.of (RN.icf (cd := .gt) (off := 7) (tgt := 16) (by decide +kernel) (mif_gtn hb)) ?_
      refine RK.of (RN.blk (ops := [(12, .iconst 1)]) (pc' := 13) (lv' := [(0, .inl a1)]) (st' := [.inl 1]) (h' := h) (cs := []) (by decide +kernel) rfl trivial) ?_
      refine RK.of (RN.goto (off := 4) (tgt := 17) (by decide +kernel)) ?_
      exact RK.zR (by decide +kernel) rfl (Or.inr rfl) hL hK hF
noncomputable def GX9_next_L5 (K0 : MH → Option (Int × MH)) : Nat → Int → MH → Option (Int × MH)
  | 0, _, _ => none
  | f + 1, v1, h =>
    (if v1 < (m_rd h 1 1) then
     gd [IB v1 400] (
      (if (m_rd h 2 v1) = 32 then
       GX9_next_L5 K0 f (m_w32 (v1 + 1)) (m_wr h 1 2 (m_w32 (v1 + 1)))
      else
       K0 h))
    else
     K0 h)
theorem DX9_next_L5 {d : Nat} {K0 : MH → Option (Int × MH)} {r : Int × MH} {h0 hB : MH} (hB0 : KD h0 hB) (hK0 : ∀ (h : MH), LR h → KD hB h → K0 h = some r → RK xs L iX9_next (d) 37 [(0, .inr (.inr 1))] [] h (RIo r) h0 r.2) : ∀ (f : Nat) (v1 : Int) (h : MH), LR h → KD hB h → GX9_next_L5 K0 f v1 h = some r → RK xs L iX9_next (d) 5 [(0, .inr (.inr 1)), (1, .inl v1)] [] h (RIo r) h0 r.2 := by
  intro f
  induction f with
  | zero =>
    intro v1 h hL hJ hF
    cases hF
  | succ f ih =>
    intro v1 h hL hJ hF
    unfold GX9_next_L5 at hF
    have hK := hB0.tr hJ
    refine RK.of (RN.blk (ops := [(5, .iload_n 1), (6, .aload_n 0), (7, .getfield 15)]) (pc' := 10) (lv' := [(0, .inr (.inr 1)), (1, .inl v1)]) (st' := [.inl (m_rd h 1 1), .inl v1]) (h' := h) (cs := [GK h 1 9]) (by decide +kernel) rfl ⟨(o_1 hL).gk, trivial⟩) ?_
    rcases it_of hF with ⟨hb, hF⟩ | ⟨hb, hF⟩
    · refine RK.of (RN.icf (cd := .ge) (off := 27) (tgt := 37) (by decide +kernel) (mif_gen hb)) ?_
      refine RK.of (RN.blk (ops := [(13, .aload_n 0)]) (pc' := 14) (lv' := [(0, .inr (.inr 1)), (1, .inl v1)]) (st' := [.inr (.inr 1)]) (h' := h) (cs := []) (by decide +kernel) rfl trivial) ?_
      refine RK.of (RN.gr (i := 9) (ci := 9) (k := 0) (fn := true) (v := 2) (by decide +kernel) rfl (TO.gk (o_1 hL)) (hL.fa (v := 2) 0 1 400 (o_1 hL) rfl (by decide) rfl (by decide)).1) ?_
      obtain ⟨hc, hF⟩ := gd_of hF
      refine RK.of (RN.blk (ops := [(17, .iload_n 1), (18, .iaload), (19, .bipush 32)]) (pc' := 21) (lv' := [(0, .inr (.inr 1)), (1, .inl v1)]) (st' := [.inl 32, .inl (m_rd h 2 v1)]) (h' := h) (cs := [GI h 2 1 v1]) (by decide +kernel) rfl ⟨(a_2 hL).gi hc.1.1 hc.1.2, trivial⟩) ?_
      rcases it_of hF with ⟨hb, hF⟩ | ⟨hb, hF⟩
      · refine RK.of (RN.icf (cd := .ne) (off := 16) (tgt := 37) (by decide +kernel) (mif_nen hb)) ?_
        refine RK.of (RN.blk (ops := [(24, .aload_n 0), (25, .iload_n 1), (26, .iconst 1), (27, .iadd), (28, .putfield 19)]) (pc' := 31) (lv' := [(0, .inr (.inr 1)), (1, .inl v1)]) (st' := []) (h' := (m_wr h 1 2 (m_w32 (v1 + 1)))) (cs := [GK h 1 9]) (by decide +kernel) rfl ⟨(o_1 hL).gk, trivial⟩) ?_
        have hL : LR (m_wr h 1 2 (m_w32 (v1 + 1))) := LR.wf (k := 2) hL (o_1 hL) rfl
        have hK := hK.tr (KD.wr : KD h (m_wr h 1 2 (m_w32 (v1 + 1))))
        have hJ := hJ.tr (KD.wr : KD h (m_wr h 1 2 (m_w32 (v1 + 1))))
        refine RK.of (RN.blk (ops := [(31, .iinc 1 1)]) (pc' := 34) (lv' := [(1, .inl (m_w32 (v1 + 1))), (0, .inr (.inr 1))]) (st' := []) (h' := (m_wr h 1 2 (m_w32 (v1 + 1)))) (cs := []) (by decide +kernel) rfl trivial) ?_
        refine RK.of (RN.goto (off := -29) (tgt := 5) (by decide +kernel)) ?_
        exact RK.sub (ih _ _ hL hJ hF) (sub_cons rfl (sub_cons rfl sub_nil))
      · refine RK.of (RN.ict (cd := .ne) (off := 16) (tgt := 37) (by decide +kernel) (mif_ne hb)) ?_
        exact RK.sub (hK0 _ hL hJ hF) (sub_cons rfl sub_nil)
    · refine RK.of (RN.ict (cd := .ge) (off := 27) (tgt := 37) (by decide +kernel) (mif_ge hb)) ?_
      exact RK.sub (hK0 _ hL hJ hF) (sub_cons rfl sub_nil)
noncomputable def GX9_next (h : MH) : Option (Int × MH) :=
  GX9_next_L5 (fun h1 =>
   (if (m_rd h1 1 2) < (m_rd h1 1 1) then
    gd [IB (m_rd h1 1 2) 400] (
     some ((m_rd h1 2 (m_rd h1 1 2)), h1))
   else
    some ((-1), h1))) FU (m_rd h 1 2) h
theorem DX9_next {d : Nat} {h : MH} {r : Int × MH} (hL : LR h) (hF : GX9_next h = some r) : RN xs L iX9_next (d) 0 (lvE 0 [.inr (.inr 1)]) [] h (RIo r) ∧ LR r.2 ∧ KD h r.2 := by
  unfold GX9_next at hF
  have hK : KD h h := KD.rf
  show RK xs L iX9_next (d) 0 (lvE 0 [.inr (.inr 1)]) [] h (RIo r) h r.2
  refine RK.of (RN.blk (ops := [(0, .aload_n 0), (1, .getfield 19), (4, .istore_n 1)]) (pc' := 5) (lv' := [(1, .inl (m_rd h 1 2)), (0, .inr (.inr 1))]) (st' := []) (h' := h) (cs := [GK h 1 9]) (by decide +kernel) rfl ⟨(o_1 hL).gk, trivial⟩) ?_
  refine RK.sub (DX9_next_L5 hK ?_ _ _ _ hL KD.rf hF) (sub_cons rfl (sub_cons rfl sub_nil))
  · intro h1 hL hq hF
    have hK := hK.tr hq
    refine RK.of (RN.blk (ops := [(37, .aload_n 0), (38, .getfield 19), (41, .aload_n 0), (42, .getfield 15)]) (pc' := 45) (lv' := [(0, .inr (.inr 1))]) (st' := [.inl (m_rd h1 1 1), .inl (m_rd h1 1 2)]) (h' := h1) (cs := [GK h1 1 9, GK h1 1 9]) (by decide +kernel) rfl ⟨(o_1 hL).gk, (o_1 hL).gk, trivial⟩) ?_
    rcases it_of hF with ⟨hb, hF⟩ | ⟨hb, hF⟩
    · refine RK.of (RN.icf (cd := .ge) (off := 15) (tgt := 60) (by decide +kernel) (mif_gen hb)) ?_
      refine RK.of (RN.blk (ops := [(48, .aload_n 0)]) (pc' := 49) (lv' := [(0, .inr (.inr 1))]) (st' := [.inr (.inr 1)]) (h' := h1) (cs := []) (by decide +kernel) rfl trivial) ?_
      refine RK.of (RN.gr (i := 9) (ci := 9) (k := 0) (fn := true) (v := 2) (by decide +kernel) rfl (TO.gk (o_1 hL)) (hL.fa (v := 2) 0 1 400 (o_1 hL) rfl (by decide) rfl (by decide)).1) ?_
      obtain ⟨hc, hF⟩ := gd_of hF
      refine RK.of (RN.blk (ops := [(52, .aload_n 0), (53, .getfield 19), (56, .iaload)]) (pc' := 57) (lv' := [(0, .inr (.inr 1))]) (st' := [.inl (m_rd h1 2 (m_rd h1 1 2))]) (h' := h1) (cs := [GK h1 1 9, GI h1 2 1 (m_rd h1 1 2)]) (by decide +kernel) rfl ⟨(o_1 hL).gk, (a_2 hL).gi hc.1.1 hc.1.2, trivial⟩) ?_
      refine RK.of (RN.goto (off := 4) (tgt := 61) (by decide +kernel)) ?_
      exact RK.iR (by decide +kernel) rfl hL hK hF
    · refine RK.of (RN.ict (cd := .ge) (off := 15) (tgt := 60) (by decide +kernel) (mif_ge hb)) ?_
      refine RK.of (RN.blk (ops := [(60, .iconst (-1))]) (pc' := 61) (lv' := [(0, .inr (.inr 1))]) (st' := [.inl (-1)]) (h' := h1) (cs := []) (by decide +kernel) rfl trivial) ?_
      exact RK.iR (by decide +kernel) rfl hL hK hF
noncomputable def GX9_takeNumber_L33 (u1 : Int) (u2 : Int) (u3 : Int) (K0 : Int → MH → Option (Int × MH)) : Nat → Int → Int → MH → Option (Int × MH)
  | 0, _, _, _ => none
  | f + 1, v4, v5, h =>
    (if v5 < (m_rd h 1 1) then
     gd [IB v5 400] (
      (bd (GX9_isDigit (m_rd h 2 v5) h) (fun x2 h1 =>
       (if x2 = 0 then
        K0 v4 h1
       else
        (if v5 < (m_w32 (u3 + 5)) then
         gd [IB v5 400] (
          GX9_takeNumber_L33 u1 u2 u3 K0 f (m_w32 ((m_w32 ((m_w32 (v4 * 10)) + (m_rd h1 2 v5))) - 48)) (m_w32 (v5 + 1)) (m_wr h1 1 2 (m_w32 (v5 + 1))))
        else
         GX9_takeNumber_L33 u1 u2 u3 K0 f v4 (m_w32 (v5 + 1)) (m_wr h1 1 2 (m_w32 (v5 + 1))))))))
    else
     K0 v4 h)
theorem DX9_takeNumber_L33 {d : Nat} {u1 : Int} {u2 : Int} {u3 : Int} {K0 : Int → MH → Option (Int × MH)} {r : Int × MH} {h0 hB : MH} (hB0 : KD h0 hB) (hK0 : ∀ (w4 : Int) (h : MH), LR h → KD hB h → K0 w4 h = some r → RK xs L iX9_takeNumber (d + 1) 95 [(0, .inr (.inr 1)), (1, .inl u1), (2, .inl u2), (3, .inl u3), (4, .inl w4)] [] h (RIo r) h0 r.2) : ∀ (f : Nat) (v4 : Int) (v5 : Int) (h : MH), LR h → KD hB h → GX9_takeNumber_L33 u1 u2 u3 K0 f v4 v5 h = some r → RK xs L iX9_takeNumber (d + 1) 33 [(0, .inr (.inr 1)), (1, .inl u1), (2, .inl u2), (3, .inl u3), (4, .inl v4), (5, .inl v5)] [] h (RIo r) h0 r.2 := by
  intro f
  induction f with
  | zero =>
    intro v4 v5 h hL hJ hF
    cases hF
  | succ f ih =>
    intro v4 v5 h hL hJ hF
    unfold GX9_takeNumber_L33 at hF
    have hK := hB0.tr hJ
    refine RK.of (RN.blk (ops := [(33, .iload 5), (35, .aload_n 0), (36, .getfield 15)]) (pc' := 39) (lv' := [(0, .inr (.inr 1)), (1, .inl u1), (2, .inl u2), (3, .inl u3), (4, .inl v4), (5, .inl v5)]) (st' := [.inl (m_rd h 1 1), .inl v5]) (h' := h) (cs := [GK h 1 9]) (by decide +kernel) rfl ⟨(o_1 hL).gk, trivial⟩) ?_
    rcases it_of hF with ⟨hb, hF⟩ | ⟨hb, hF⟩
    · refine RK.of (RN.icf (cd := .ge) (off := 56) (tgt := 95) (by decide +kernel) (mif_gen hb)) ?_
      refine RK.of (RN.blk (ops := [(42, .aload_n 0)]) (pc' := 43) (lv' := [(0, .inr (.inr 1)), (1, .inl u1), (2, .inl u2), (3, .inl u3), (4, .inl v4), (5, .inl v5)]) (st' := [.inr (.inr 1)]) (h' := h) (cs := []) (by decide +kernel) rfl trivial) ?_
      refine RK.of (RN.gr (i := 9) (ci := 9) (k := 0) (fn := true) (v := 2) (by decide +kernel) rfl (TO.gk (o_1 hL)) (hL.fa (v := 2) 0 1 400 (o_1 hL) rfl (by decide) rfl (by decide)).1) ?_
      obtain ⟨hc, hF⟩ := gd_of hF
      refine RK.of (RN.blk (ops := [(46, .iload 5), (48, .iaload)]) (pc' := 49) (lv' := [(0, .inr (.inr 1)), (1, .inl u1), (2, .inl u2), (3, .inl u3), (4, .inl v4), (5, .inl v5)]) (st' := [.inl (m_rd h 2 v5)]) (h' := h) (cs := [GI h 2 1 v5]) (by decide +kernel) rfl ⟨(a_2 hL).gi hc.1.1 hc.1.2, trivial⟩) ?_
      obtain ⟨x2, h1, hG, hF⟩ := bd_of hF
      obtain ⟨hN, hL, hQ⟩ := DX9_isDigit (d := d) hL  hG
      refine RK.of (RN.cst (i := 46) (k := 98) (q2 := iX9_isDigit) (as := [.inl (m_rd h 2 v5)]) (r := []) (v := some (.inl x2)) (h1 := h1) (by decide +kernel) rfl rfl rfl rfl rfl hN) ?_
      have hK := hK.tr hQ
      have hJ := hJ.tr hQ
      rcases it_of hF with ⟨hb, hF⟩ | ⟨hb, hF⟩
      · refine RK.of (RN.ift (cd := .eq) (off := 43) (tgt := 95) (by decide +kernel) (mif_eq hb)) ?_
        exact RK.sub (hK0 _ _ hL hJ hF) (sub_cons rfl (sub_cons rfl (sub_cons rfl (sub_cons rfl (sub_cons rfl sub_nil)))))
      · refine RK.of (RN.iff (cd := .eq) (off := 43) (tgt := 95) (by decide +kernel) (mif_eqn hb)) ?_
        refine RK.of (RN.blk (ops := [(55, .iload 5), (57, .iload_n 3), (58, .iconst 5), (59, .iadd)]) (pc' := 60) (lv' := [(0, .inr (.inr 1)), (1, .inl u1), (2, .inl u2), (3, .inl u3), (4, .inl v4), (5, .inl v5)]) (st' := [.inl (m_w32 (u3 + 5)), .inl v5]) (h' := h1) (cs := []) (by decide +kernel) rfl trivial) ?_
        rcases it_of hF with ⟨hb, hF⟩ | ⟨hb, hF⟩
        · refine RK.of (RN.icf (cd := .ge) (off := 21) (tgt := 81) (by decide +kernel) (mif_gen hb)) ?_
          refine RK.of (RN.blk (ops := [(63, .iload 4), (65, .bipush 10), (67, .imul), (68, .aload_n 0)]) (pc' := 69) (lv' := [(0, .inr (.inr 1)), (1, .inl u1), (2, .inl u2), (3, .inl u3), (4, .inl v4), (5, .inl v5)]) (st' := [.inr (.inr 1), .inl (m_w32 (v4 * 10))]) (h' := h1) (cs := []) (by decide +kernel) rfl trivial) ?_
          refine RK.of (RN.gr (i := 9) (ci := 9) (k := 0) (fn := true) (v := 2) (by decide +kernel) rfl (TO.gk (o_1 hL)) (hL.fa (v := 2) 0 1 400 (o_1 hL) rfl (by decide) rfl (by decide)).1) ?_
          obtain ⟨hc, hF⟩ := gd_of hF
          refine RK.of (RN.blk (ops := [(72, .iload 5), (74, .iaload), (75, .iadd), (76, .bipush 48), (78, .isub), (79, .istore 4)]) (pc' := 81) (lv' := [(4, .inl (m_w32 ((m_w32 ((m_w32 (v4 * 10)) + (m_rd h1 2 v5))) - 48))), (0, .inr (.inr 1)), (1, .inl u1), (2, .inl u2), (3, .inl u3), (5, .inl v5)]) (st' := []) (h' := h1) (cs := [GI h1 2 1 v5]) (by decide +kernel) rfl ⟨(a_2 hL).gi hc.1.1 hc.1.2, trivial⟩) ?_
          refine RK.of (RN.blk (ops := [(81, .aload_n 0), (82, .iload 5), (84, .iconst 1), (85, .iadd), (86, .putfield 19)]) (pc' := 89) (lv' := [(4, .inl (m_w32 ((m_w32 ((m_w32 (v4 * 10)) + (m_rd h1 2 v5))) - 48))), (0, .inr (.inr 1)), (1, .inl u1), (2, .inl u2), (3, .inl u3), (5, .inl v5)]) (st' := []) (h' := (m_wr h1 1 2 (m_w32 (v5 + 1)))) (cs := [GK h1 1 9]) (by decide +kernel) rfl ⟨(o_1 hL).gk, trivial⟩) ?_
          have hL : LR (m_wr h1 1 2 (m_w32 (v5 + 1))) := LR.wf (k := 2) hL (o_1 hL) rfl
          have hK := hK.tr (KD.wr : KD h1 (m_wr h1 1 2 (m_w32 (v5 + 1))))
          have hJ := hJ.tr (KD.wr : KD h1 (m_wr h1 1 2 (m_w32 (v5 + 1))))
          refine RK.of (RN.blk (ops := [(89, .iinc 5 1)]) (pc' := 92) (lv' := [(5, .inl (m_w32 (v5 + 1))), (4, .inl (m_w32 ((m_w32 ((m_w32 (v4 * 10)) + (m_rd h1 2 v5))) - 48))), (0, .inr (.inr 1)), (1, .inl u1), (2, .inl u2), (3, .inl u3)]) (st' := []) (h' := (m_wr h1 1 2 (m_w32 (v5 + 1)))) (cs := []) (by decide +kernel) rfl trivial) ?_
          refine RK.of (RN.goto (off := -59) (tgt := 33) (by decide +kernel)) ?_
          exact RK.sub (ih _ _ _ hL hJ hF) (sub_cons rfl (sub_cons rfl (sub_cons rfl (sub_cons rfl (sub_cons rfl (sub_cons rfl sub_nil))))))
        · refine RK.of (RN.ict (cd := .ge) (off := 21) (tgt := 81) (by decide +kernel) (mif_ge hb)) ?_
          refine RK.of (RN.blk (ops := [(81, .aload_n 0), (82, .iload 5), (84, .iconst 1), (85, .iadd), (86, .putfield 19)]) (pc' := 89) (lv' := [(0, .inr (.inr 1)), (1, .inl u1), (2, .inl u2), (3, .inl u3), (4, .inl v4), (5, .inl v5)]) (st' := []) (h' := (m_wr h1 1 2 (m_w32 (v5 + 1)))) (cs := [GK h1 1 9]) (by decide +kernel) rfl ⟨(o_1 hL).gk, trivial⟩) ?_
          have hL : LR (m_wr h1 1 2 (m_w32 (v5 + 1))) := LR.wf (k := 2) hL (o_1 hL) rfl
          have hK := hK.tr (KD.wr : KD h1 (m_wr h1 1 2 (m_w32 (v5 + 1))))
          have hJ := hJ.tr (KD.wr : KD h1 (m_wr h1 1 2 (m_w32 (v5 + 1))))
          refine RK.of (RN.blk (ops := [(89, .iinc 5 1)]) (pc' := 92) (lv' := [(5, .inl (m_w32 (v5 + 1))), (0, .inr (.inr 1)), (1, .inl u1), (2, .inl u2), (3, .inl u3), (4, .inl v4)]) (st' := []) (h' := (m_wr h1 1 2 (m_w32 (v5 + 1)))) (cs := []) (by decide +kernel) rfl trivial) ?_
          refine RK.of (RN.goto (off := -59) (tgt := 33) (by decide +kernel)) ?_
          exact RK.sub (ih _ _ _ hL hJ hF) (sub_cons rfl (sub_cons rfl (sub_cons rfl (sub_cons rfl (sub_cons rfl (sub_cons rfl sub_nil))))))
    · refine RK.of (RN.ict (cd := .ge) (off := 56) (tgt := 95) (by decide +kernel) (mif_ge hb)) ?_
      exact RK.sub (hK0 _ _ hL hJ hF) (sub_cons rfl (sub_cons rfl (sub_cons rfl (sub_cons rfl (sub_cons rfl sub_nil)))))
noncomputable def GX9_takeNumber (a1 : Int) (a2 : Int) (h : MH) : Option (Int × MH) :=
  (bd (GX9_next h) (fun x2 h1 =>
   (bd (GX9_isDigit x2 h1) (fun x4 h3 =>
    (if x4 = 0 then
     (bd (GX9_fail (m_rd h3 1 2) 0 h3) (fun x11 h10 =>
      some ((-1), h10)))
    else
     GX9_takeNumber_L33 a1 a2 (m_rd h3 1 2) (fun w5 h6 =>
      jn (
       (bd (GX9_fail (m_rd h3 1 2) 1 h6) (fun x9 h8 =>
        some ((-1), h8)))) (fun j7 =>
       (if 5 < (m_w32 ((m_rd h6 1 2) - (m_rd h3 1 2))) then
        j7
       else
        (if w5 < a1 then
         j7
        else
         (if a2 < w5 then
          j7
         else
          some (w5, h6)))))) FU 0 (m_rd h3 1 2) h3)))))
theorem DX9_takeNumber {d : Nat} {a1 : Int} {a2 : Int} {h : MH} {r : Int × MH} (hL : LR h) (hF : GX9_takeNumber a1 a2 h = some r) : RN xs L iX9_takeNumber (d + 1) 0 (lvE 0 [.inr (.inr 1), .inl a1, .inl a2]) [] h (RIo r) ∧ LR r.2 ∧ KD h r.2 := by
  unfold GX9_takeNumber at hF
  have hK : KD h h := KD.rf
  show RK xs L iX9_takeNumber (d + 1) 0 (lvE 0 [.inr (.inr 1), .inl a1, .inl a2]) [] h (RIo r) h r.2
  refine RK.of (RN.blk (ops := [(0, .aload_n 0)]) (pc' := 1) (lv' := [(0, .inr (.inr 1)), (1, .inl a1), (2, .inl a2)]) (st' := [.inr (.inr 1)]) (h' := h) (cs := []) (by decide +kernel) rfl trivial) ?_
  obtain ⟨x2, h1, hG, hF⟩ := bd_of hF
  have hq := rcv_ok (as := []) (TO.gk (o_1 hL))
  obtain ⟨hN, hL, hQ⟩ := DX9_next (d := d) hL  hG
  refine RK.of (RN.cv (i := 25) (k := 93) (q2 := iX9_next) (as := [.inr (.inr 1)]) (r := []) (v := some (.inl x2)) (h1 := h1) (by decide +kernel) rfl rfl rfl rfl rfl hq hN) ?_
  have hK := hK.tr hQ
  obtain ⟨x4, h3, hG, hF⟩ := bd_of hF
  obtain ⟨hN, hL, hQ⟩ := DX9_isDigit (d := d) hL  hG
  refine RK.of (RN.cst (i := 46) (k := 98) (q2 := iX9_isDigit) (as := [.inl x2]) (r := []) (v := some (.inl x4)) (h1 := h3) (by decide +kernel) rfl rfl rfl rfl rfl hN) ?_
  have hK := hK.tr hQ
  rcases it_of hF with ⟨hb, hF⟩ | ⟨hb, hF⟩
  · refine RK.of (RN.iff (cd := .ne) (off := 15) (tgt := 22) (by decide +kernel) (mif_nen hb)) ?_
    refine RK.of (RN.blk (ops := [(10, .aload_n 0), (11, .aload_n 0), (12, .getfield 19), (15, .iconst 0)]) (pc' := 16) (lv' := [(0, .inr (.inr 1)), (1, .inl a1), (2, .inl a2)]) (st' := [.inl 0, .inl (m_rd h3 1 2), .inr (.inr 1)]) (h' := h3) (cs := [GK h3 1 9]) (by decide +kernel) rfl ⟨(o_1 hL).gk, trivial⟩) ?_
    obtain ⟨x11, h10, hG, hF⟩ := bd_of hF
    have hq := rcv_ok (as := [.inl (m_rd h3 1 2), .inl 0]) (TO.gk (o_1 hL))
    obtain ⟨hN, hL, hQ⟩ := DX9_fail (d := d) hL  hG
    refine RK.of (RN.cv (i := 29) (k := 91) (q2 := iX9_fail) (as := [.inr (.inr 1), .inl (m_rd h3 1 2), .inl 0]) (r := []) (v := some (.inl x11)) (h1 := h10) (by decide +kernel) rfl rfl rfl rfl rfl hq hN) ?_
    have hK := hK.tr hQ
    refine RK.of (RN.blk (ops := [(19, .pop), (20, .iconst (-1))]) (pc' := 21) (lv' := [(0, .inr (.inr 1)), (1, .inl a1), (2, .inl a2)]) (st' := [.inl (-1)]) (h' := h10) (cs := []) (by decide +kernel) rfl trivial) ?_
    exact RK.iR (by decide +kernel) rfl hL hK hF
  · refine RK.of (RN.ift (cd := .ne) (off := 15) (tgt := 22) (by decide +kernel) (mif_ne hb)) ?_
    refine RK.of (RN.blk (ops := [(22, .aload_n 0), (23, .getfield 19), (26, .istore_n 3), (27, .iconst 0), (28, .istore 4), (30, .iload_n 3), (31, .istore 5)]) (pc' := 33) (lv' := [(5, .inl (m_rd h3 1 2)), (4, .inl 0), (3, .inl (m_rd h3 1 2)), (0, .inr (.inr 1)), (1, .inl a1), (2, .inl a2)]) (st' := []) (h' := h3) (cs := [GK h3 1 9]) (by decide +kernel) rfl ⟨(o_1 hL).gk, trivial⟩) ?_
    refine RK.sub (DX9_takeNumber_L33 hK ?_ _ _ _ _ hL KD.rf hF) (sub_cons rfl (sub_cons rfl (sub_cons rfl (sub_cons rfl (sub_cons rfl (sub_cons rfl sub_nil))))))
    · intro w5 h6 hL hq hF
      have hK := hK.tr hq
      refine RK.of (RN.blk (ops := [(95, .aload_n 0), (96, .getfield 19), (99, .iload_n 3), (100, .isub), (101, .iconst 5)]) (pc' := 102) (lv' := [(0, .inr (.inr 1)), (1, .inl a1), (2, .inl a2), (3, .inl (m_rd h3 1 2)), (4, .inl w5)]) (st' := [.inl 5, .inl (m_w32 ((m_rd h6 1 2) - (m_rd h3 1 2)))]) (h' := h6) (cs := [GK h6 1 9]) (by decide +kernel) rfl ⟨(o_1 hL).gk, trivial⟩) ?_
      refine jn_use (fun j7 => j7 = some r → RK xs L iX9_takeNumber (d + 1) 117 [(0, .inr (.inr 1)), (3, .inl (m_rd h3 1 2))] [] h6 (RIo r) h r.2) ?_ ?_ hF
      · intro  hF
        refine RK.of (RN.blk (ops := [(117, .aload_n 0), (118, .iload_n 3), (119, .iconst 1)]) (pc' := 120) (lv' := [(0, .inr (.inr 1)), (3, .inl (m_rd h3 1 2))]) (st' := [.inl 1, .inl (m_rd h3 1 2), .inr (.inr 1)]) (h' := h6) (cs := []) (by decide +kernel) rfl trivial) ?_
        obtain ⟨x9, h8, hG, hF⟩ := bd_of hF
        have hq := rcv_ok (as := [.inl (m_rd h3 1 2), .inl 1]) (TO.gk (o_1 hL))
        obtain ⟨hN, hL, hQ⟩ := DX9_fail (d := d) hL  hG
        refine RK.of (RN.cv (i := 29) (k := 91) (q2 := iX9_fail) (as := [.inr (.inr 1), .inl (m_rd h3 1 2), .inl 1]) (r := []) (v := some (.inl x9)) (h1 := h8) (by decide +kernel) rfl rfl rfl rfl rfl hq hN) ?_
        have hK := hK.tr hQ
        refine RK.of (RN.blk (ops := [(123, .pop), (124, .iconst (-1))]) (pc' := 125) (lv' := [(0, .inr (.inr 1)), (3, .inl (m_rd h3 1 2))]) (st' := [.inl (-1)]) (h' := h8) (cs := []) (by decide +kernel) rfl trivial) ?_
        exact RK.iR (by decide +kernel) rfl hL hK hF
      · intro j7 Jj7 hF
        rcases it_of hF with ⟨hb, hF⟩ | ⟨hb, hF⟩
        · refine RK.of (RN.ict (cd := .gt) (off := 15) (tgt := 117) (by decide +kernel) (mif_gt hb)) ?_
          exact RK.sub (Jj7 hF) (sub_cons rfl (sub_cons rfl sub_nil))
        · refine RK.of (RN.icf (cd := .gt) (off := 15) (tgt := 117) (by decide +kernel) (mif_gtn hb)) ?_
          refine RK.of (RN.blk (ops := [(105, .iload 4), (107, .iload_n 1)]) (pc' := 108) (lv' := [(0, .inr (.inr 1)), (1, .inl a1), (2, .inl a2), (3, .inl (m_rd h3 1 2)), (4, .inl w5)]) (st' := [.inl a1, .inl w5]) (h' := h6) (cs := []) (by decide +kernel) rfl trivial) ?_
          rcases it_of hF with ⟨hb, hF⟩ | ⟨hb, hF⟩
          · refine RK.of (RN.ict (cd := .lt) (off := 9) (tgt := 117) (by decide +kernel) (mif_lt hb)) ?_
            exact RK.sub (Jj7 hF) (sub_cons rfl (sub_cons rfl sub_nil))
          · refine RK.of (RN.icf (cd := .lt) (off := 9) (tgt := 117) (by decide +kernel) (mif_ltn hb)) ?_
            refine RK.of (RN.blk (ops := [(111, .iload 4), (113, .iload_n 2)]) (pc' := 114) (lv' := [(0, .inr (.inr 1)), (1, .inl a1), (2, .inl a2), (3, .inl (m_rd h3 1 2)), (4, .inl w5)]) (st' := [.inl a2, .inl w5]) (h' := h6) (cs := []) (by decide +kernel) rfl trivial) ?_
            rcases it_of hF with ⟨hb, hF⟩ | ⟨hb, hF⟩
            · refine RK.of (RN.icf (cd := .le) (off := 12) (tgt := 126) (by decide +kernel) (mif_len hb)) ?_
              exact RK.sub (Jj7 hF) (sub_cons rfl (sub_cons rfl sub_nil))
            · refine RK.of (RN.ict (cd := .le) (off := 12) (tgt := 126) (by decide +kernel) (mif_le hb)) ?_
              refine RK.of (RN.blk (ops := [(126, .iload 4)]) (pc' := 128) (lv' := [(0, .inr (.inr 1)), (1, .inl a1), (2, .inl a2), (3, .inl (m_rd h3 1 2)), (4, .inl w5)]) (st' := [.inl w5]) (h' := h6) (cs := []) (by decide +kernel) rfl trivial) ?_
              exact RK.iR (by decide +kernel) rfl hL hK hF
end Gc
